/-! PURE: whom a payment was for; months drawn. -/
def maskI (f : Nat → Bool) : Nat → Int32
  | 0 => 0
  | n + 1 => if f n then maskI f n ||| (1 <<< (nI n &&& 31)) else maskI f n
theorem bit_mask {f : Nat → Bool} {l : Nat} (hl : l < 32) : ∀ n, n ≤ 32 → bitI (maskI f n) l = (decide (l < n) && f l)
  | 0, _ => by
    show bitI 0 l = _
    rw [bit_zero]; simp
  | n + 1, hn => by
    have ih := bit_mask (f := f) hl n (by omega)
    show bitI (if f n then maskI f n ||| (1 <<< (nI n &&& 31)) else maskI f n) l = _
    cases hf : f n
    · rw [if_neg (by decide), ih]
      by_cases e : l = n
      · subst e; simp [hf]
      · by_cases q : l < n
        · simp [q, Nat.lt_succ_of_lt q]
        · have : ¬ l < n + 1 := by omega
          simp [q, this]
    · rw [if_pos rfl, bit_or, ih, bit_one (by omega) hl]
      by_cases e : l = n
      · subst e; simp [hf]
      · by_cases q : l < n
        · simp [q, e, Nat.lt_succ_of_lt q]
        · have : ¬ l < n + 1 := by omega
          simp [q, e, this]
theorem maskI_s {f : Nat → Bool} {n : Nat} : maskI f (n + 1) = if f n then maskI f n ||| (1 <<< (nI n &&& 31)) else maskI f n := rfl
theorem or_0 (x : Int32) : x ||| 0 = x := by
  apply Int32.toBitVec_inj.mp
  rw [Int32.toBitVec_or]
  have h0 : (0 : Int32).toBitVec = 0#32 := by decide
  rw [h0, BitVec.or_zero]
def hadB (A : AT) (l : Nat) : Bool := decide (A.2 6 l = 1)
theorem s_hadBits {A : AT} {T : Tw} {b : Nat} (rt : rT A T) (oa : okA b A) : f_X1_hadBits T = some (maskI (hadB A) (A.1 5)) := by
  have a5 := oa.2.2.2.2.2.1
  have c5 := rt.1 5 (by omega)
  unfold f_X1_hadBits
  rw [lett_d, lett_d]
  unfold l_X1_hadBits_4
  refine itr_st (fun i => (maskI (hadB A) i, nI i)) _ (A.1 5) ?_ ?_ FU 0 (by omega) (by rw [FU_d]; omega)
  · intro i k hi
    have c6 := rt.2.2.1 6 (by omega) (by omega) i hi
    have l6 := (oa.2.2.2.2.2.2.2.2.1 i hi).2.2.2.2.2.1
    show f_X1_hadBits_4 (maskI (hadB A) i) (nI i) T (fun x2 x3 => k (x2, x3)) = k (if hadB A i then maskI (hadB A) i ||| (1 <<< (nI i &&& 31)) else maskI (hadB A) i, nI (i + 1))
    unfold f_X1_hadBits_4 f_X1_hadBits_34
    rw [if_neg (by rw [c5, leN (by omega) (by omega)]; omega), gi_n (by omega) (by omega), clN (by omega), c6]
    simp only [lett_d]
    rw [show nI i + 1 = nI (i + 1) from nI_add i 1]
    by_cases q : A.2 6 i = 1
    · have hq : hadB A i = true := decide_eq_true q
      rw [if_pos (by rw [q]; rfl), hq, if_pos rfl]
    · have hq : hadB A i = false := decide_eq_false q
      have hq2 : ¬ nI (A.2 6 i) = 1 := by
        show ¬ nI (A.2 6 i) = nI 1
        rw [eqN (by omega) (by omega)]; exact q
      rw [if_neg hq2, hq, if_neg (by decide)]
  · intro k
    show f_X1_hadBits_4 (maskI (hadB A) (A.1 5)) (nI (A.1 5)) T (fun x2 x3 => k (x2, x3)) = _
    unfold f_X1_hadBits_4
    rw [c5, if_pos (Int32.le_refl _)]
/-- who is paid in it, and as told -/
def whomB (A1 A2 : AT) (x : Int32) (l : Nat) : Bool := hadB A2 l && !hadB A1 l && decide (nI (wholeN A2 l) = x)
theorem s_whom {A1 A2 : AT} {T : Tw} {O : Tw} {b n : Nat} {x : Int32} (rt : rT A2 T) (oa : okA b A2) (hn : n = A2.1 5) : l_X1_hadInMonth_38 x (maskI (hadB A2) n &&& (maskI (hadB A1) n ^^^ -1)) T O FU (nI 0) (nI 0) = some (maskI (whomB A1 A2 x) n, T) := by
  have a5 := oa.2.2.2.2.2.1
  have c5 := rt.1 5 (by omega)
  subst hn
  unfold l_X1_hadInMonth_38
  refine itr_st (fun i => (maskI (whomB A1 A2 x) i, nI i)) _ (A2.1 5) ?_ ?_ FU 0 (by omega) (by rw [FU_d]; omega)
  · intro i k hi
    have hb : bitI (maskI (hadB A2) (A2.1 5) &&& (maskI (hadB A1) (A2.1 5) ^^^ -1)) i = (hadB A2 i && !hadB A1 i) := by
      rw [bit_and, bit_not _ (by omega), bit_mask (by omega) _ (by omega), bit_mask (by omega) _ (by omega)]
      simp [hi]
    show f_X1_hadInMonth_38 x _ (maskI (whomB A1 A2 x) i) (nI i) T O (fun x2 x3 => k (x2, x3)) = k (if whomB A1 A2 x i then maskI (whomB A1 A2 x) i ||| (1 <<< (nI i &&& 31)) else maskI (whomB A1 A2 x) i, nI (i + 1))
    unfold f_X1_hadInMonth_38 f_X1_hadInMonth_82
    rw [if_neg (by rw [c5, leN (by omega) (by omega)]; omega), s_bit _ (by omega), hb, s_wholeOf rt oa hi]
    simp only [bn_s, lett_d]
    rw [show nI i + 1 = nI (i + 1) from nI_add i 1]
    unfold whomB
    cases hadB A2 i && !hadB A1 i
    · rw [if_neg (show ¬ (false = true) by decide), if_pos rfl]; rfl
    · rw [if_pos rfl, if_neg i10]
      by_cases q : nI (wholeN A2 i) = x
      · rw [if_pos q, if_pos (by simp [q])]
      · rw [if_neg q, if_neg (by simp [q])]
  · intro k
    show f_X1_hadInMonth_38 x _ (maskI (whomB A1 A2 x) (A2.1 5)) (nI (A2.1 5)) T O (fun x2 x3 => k (x2, x3)) = _
    unfold f_X1_hadInMonth_38
    rw [c5, if_pos (Int32.le_refl _)]
theorem m_whom1 {A1 : AT} {M : Ms} {t : Nat → Int32} {b n : Nat} {x : Int32} {K71 : Int32 → Option (Int32 × Ms)} (rm : rM A1 t) (oa : okA b A1) (hn : n = A1.1 5) (h4 : M.2.2 0 4 = nI n) (ht : M.2.2 1 = t) : l_X8_whom_25 x M K71 FU (nI 0) (nI 0) = K71 (maskI (hadB A1) n) := by
  have a5 := oa.2.2.2.2.2.1
  unfold l_X8_whom_25
  refine itr_st (fun i => (maskI (hadB A1) i, nI i)) _ n ?_ ?_ FU 0 (by omega) (by rw [FU_d]; omega)
  · intro i k hi
    have c6 : t (26 + 5 * i + 3) = nI (A1.2 6 i) := rm.2.2.2.1 3 (by omega) i (by omega)
    have l6 := (oa.2.2.2.2.2.2.2.2.1 i (by omega)).2.2.2.2.2.1
    show f_X8_whom_25 x (maskI (hadB A1) i) (nI i) M (fun x2 x3 => k (x2, x3)) _ = k (if hadB A1 i then maskI (hadB A1) i ||| (1 <<< (nI i &&& 31)) else maskI (hadB A1) i, nI (i + 1))
    unfold f_X8_whom_25 f_X8_whom_63
    rw [show (4 : Int32) = nI 4 from rfl, gi_n (by omega) (by omega), clN (by omega), h4, if_neg (by rw [leN (by omega) (by omega)]; omega), ht]
    have e1 : (26 : Int32) + (5 : Int32) * nI i + (3 : Int32) = nI (26 + 5 * i + 3) := by
      simp only [litI, pk_mul, nI_add]
    rw [e1, gi_n (by omega) (by omega), clN (by omega), c6]
    simp only [lett_d]
    rw [show nI i + 1 = nI (i + 1) from nI_add i 1]
    by_cases q : A1.2 6 i = 1
    · have hq : hadB A1 i = true := decide_eq_true q
      rw [if_pos (by rw [q]; rfl), hq, if_pos rfl]
    · have hq : hadB A1 i = false := decide_eq_false q
      have hq2 : ¬ nI (A1.2 6 i) = 1 := by
        show ¬ nI (A1.2 6 i) = nI 1
        rw [eqN (by omega) (by omega)]; exact q
      rw [if_neg hq2, hq, if_neg (by decide), or_0]
  · intro k
    show f_X8_whom_25 x (maskI (hadB A1) n) (nI n) M (fun x2 x3 => k (x2, x3)) _ = _
    unfold f_X8_whom_25
    rw [show (4 : Int32) = nI 4 from rfl, gi_n (by omega) (by omega), clN (by omega), h4, if_pos (Int32.le_refl _)]
theorem m_whom2 {A1 A2 : AT} {M : Ms} {t : Nat → Int32} {b n : Nat} {x : Int32} (rm : rM A2 t) (oa : okA b A2) (hn : n = A2.1 5) (h4 : M.2.2 0 4 = nI n) (ht : M.2.2 1 = t) : l_X8_whom_86 x (maskI (hadB A1) n) M FU (nI 0) (nI 0) = some (maskI (whomB A1 A2 x) n, M) := by
  have a5 := oa.2.2.2.2.2.1
  unfold l_X8_whom_86
  refine itr_st (fun i => (maskI (whomB A1 A2 x) i, nI i)) _ n ?_ ?_ FU 0 (by omega) (by rw [FU_d]; omega)
  · intro i k hi
    have hi2 : i < A2.1 5 := by omega
    have c6 : t (26 + 5 * i + 3) = nI (A2.2 6 i) := rm.2.2.2.1 3 (by omega) i hi2
    have l6 := (oa.2.2.2.2.2.2.2.2.1 i (by omega)).2.2.2.2.2.1
    have hb : bitI (maskI (hadB A1) n) i = hadB A1 i := by
      rw [bit_mask (by omega) _ (by omega)]; simp [hi]
    show f_X8_whom_86 x (maskI (hadB A1) n) (maskI (whomB A1 A2 x) i) (nI i) M (fun x2 x3 => k (x2, x3)) = k (if whomB A1 A2 x i then maskI (whomB A1 A2 x) i ||| (1 <<< (nI i &&& 31)) else maskI (whomB A1 A2 x) i, nI (i + 1))
    unfold f_X8_whom_86 f_X8_whom_141 f_X8_whom_142 f_X8_whom_159
    rw [show (4 : Int32) = nI 4 from rfl, gi_n (by omega) (by omega), clN (by omega), h4, if_neg (by rw [leN (by omega) (by omega)]; omega), ht]
    have e1 : (26 : Int32) + (5 : Int32) * nI i + (3 : Int32) = nI (26 + 5 * i + 3) := by
      simp only [litI, pk_mul, nI_add]
    rw [e1, gi_n (by omega) (by omega), clN (by omega), c6, shr_bit _ (by omega), hb, m_whole rm oa hi2]
    simp only [bn_s, lett_d, if_neg i10, if_true, or_0]
    rw [show nI i + 1 = nI (i + 1) from nI_add i 1]
    unfold whomB
    by_cases q : A2.2 6 i = 1
    · have hq : hadB A2 i = true := decide_eq_true q
      rw [if_pos (show nI (A2.2 6 i) = 1 by rw [q]; rfl), hq]
      cases hadB A1 i
      · rw [if_neg (show ¬ (false = true) by decide), if_pos rfl]
        by_cases r : nI (wholeN A2 i) = x
        · rw [if_pos r, if_pos (by simp [r])]
        · rw [if_neg r, if_neg (by simp [r])]
      · rw [if_pos rfl, if_neg i10, if_neg (by simp)]
    · have hq : hadB A2 i = false := decide_eq_false q
      have hq2 : ¬ nI (A2.2 6 i) = 1 := by
        show ¬ nI (A2.2 6 i) = nI 1
        rw [eqN (by omega) (by omega)]; exact q
      rw [if_neg hq2, hq, if_neg (by simp)]
  · intro k
    show f_X8_whom_86 x (maskI (hadB A1) n) (maskI (whomB A1 A2 x) n) (nI n) M (fun x2 x3 => k (x2, x3)) = _
    unfold f_X8_whom_86
    rw [show (4 : Int32) = nI 4 from rfl, gi_n (by omega) (by omega), clN (by omega), h4, if_pos (Int32.le_refl _)]
section
variable {b : Nat} {B : Nat → Int32} {N : Tw} {P : Ps} {I1 : Int32} {T1 : Tw} {P1 : Ps} {I2 : Int32} {T2 : Tw} {P2 : Ps} {X : Tx} {K : Ch} {M : Ms}
theorem q_whom (h : SR b B N P I1 T1 P1 I2 T2 P2 X K M) (hb : b < 100000) (R : Tw) (x y : Int32) : ∃ r B' R' M', f_X7_whom x y B N R = some (r, B', R') ∧ f_X8_whom x y M = some (r, M') ∧ SR (b + 96) B' N P I1 T1 P1 I2 T2 P2 X K M' := by
  obtain ⟨A, H, rt, rm, oa, rp, rmp, op⟩ := h.2.1
  unfold f_X7_whom f_X8_whom
  rcases in_cases x 0 59 (by omega) (by omega) with ⟨m, _, hm, e, e8, e7⟩ | ⟨e8, e7⟩
  · rw [show f_X7_within x 0 59 = some 1 from e7, show f_X8_in x 0 59 = some 1 from e8]
    subst e
    simp only [bn_s, if_neg i10]
    obtain ⟨A', R1, t, g1, g2, rt', rm', oa', sA⟩ := ahead_both (R := R) rt rm oa hb (show m ≤ 60 by omega)
    have o1 := okA_ahead oa' m
    have o2 := okA_ahead oa' (m + 1)
    obtain ⟨R2, l1, l2⟩ := s_liveMonth rt' o1 (by omega) dry0_of
    obtain ⟨r2, m1, _, m3⟩ := m_month rm' o1 (by omega) dry0_of
    have n1 : A.1 5 = (aheadN m A').1 5 := by rw [aheadN_1 (by omega) (by omega) (by omega), sA.1]
    have n2 : A.1 5 = (aheadN (m + 1) A').1 5 := by rw [aheadN_1 (by omega) (by omega) (by omega), sA.1]
    have h4 : (M.2.2 0) 4 = nI (A.1 5) := rm.2.1 5 (by omega)
    unfold f_X1_hadInMonth
    rw [g1, g2]
    simp only [bn_s, lett_d]
    rw [s_hadBits rt' o1]
    simp only [bn_s]
    rw [l1]
    simp only [bn_s]
    rw [s_hadBits (A := aheadN (m + 1) A') l2 o2, ← n1, ← n2]
    simp only [bn_s]
    rw [show (0 : Int32) = nI 0 from rfl, s_whom (A1 := aheadN m A') (A2 := aheadN (m + 1) A') l2 o2 n2]
    rw [m_whom1 (A1 := aheadN m A') rm' o1 n1 (by rw [t1N_0]; exact h4) t1N_1]
    unfold f_X8_whom_71
    rw [t1N_1, show (0 : Int32) = nI 0 from rfl, show f_X8_month (nI 0) t = some r2 from m1]
    simp only [bn_s, lett_d, t1N_t]
    rw [m_whom2 (A1 := aheadN m A') (A2 := aheadN (m + 1) A') m3 o2 n2 (by rw [t1N_0]; exact h4) t1N_1]
    exact ⟨_, _, _, _, rfl, rfl, SR_t1 h r2.2⟩
  · rw [show f_X7_within x 0 59 = some 0 from e7, show f_X8_in x 0 59 = some 0 from e8]
    simp only [bn_s, if_true, bad7, bad8]
    exact ⟨_, _, _, _, rfl, rfl, SR_bad h⟩
end
