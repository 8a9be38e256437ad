/-! PURE: how many; months ahead; what is foretold. -/
def manyN (A : AT) (how : Nat) : Nat → Nat
  | 0 => 0
  | n + 1 => manyN A how n + (if A.2 6 n = how then 1 else 0)
theorem manyN_le (A : AT) (how : Nat) : ∀ n, manyN A how n ≤ n
  | 0 => Nat.le_refl _
  | n + 1 => by
    have := manyN_le A how n
    show manyN A how n + (if A.2 6 n = how then 1 else 0) ≤ n + 1
    split <;> omega
theorem s_howMany {A : AT} {T : Tw} {b how : Nat} (rt : rT A T) (oa : okA b A) (hh : how < 1000) : f_X5_howManyAre (nI how) T = some (nI (manyN A how (A.1 5))) := by
  have a5 := oa.2.2.2.2.2.1
  have c5 := rt.1 5 (by omega)
  unfold f_X5_howManyAre
  rw [lett_d, lett_d]
  unfold l_X5_howManyAre_4
  refine itr_st (fun i => (nI (manyN A how i), nI i)) _ (A.1 5) ?_ ?_ FU 0 (by omega) (by rw [FU_d]; omega)
  · intro i k hi
    have hm := manyN_le A how i
    have c6 := rt.2.2.1 6 (by omega) (by omega) i hi
    have l6 := (oa.2.2.2.2.2.2.2.2.1 i hi).2.2.2.2.2.1
    show f_X5_howManyAre_4 (nI how) (nI (manyN A how i)) (nI i) T (fun x2 x3 => k (x2, x3)) = k (nI (manyN A how i + (if A.2 6 i = how then 1 else 0)), nI (i + 1))
    unfold f_X5_howManyAre_4 f_X5_howManyAre_25
    simp (disch := omega) only [litI, c5, leN, gi_n, clN, c6, eqN, lett_d, nI_add]
    rw [if_neg (by omega)]
    by_cases q : A.2 6 i = how
    · rw [if_pos q, if_pos q]
    · rw [if_neg q, if_neg q]
      rfl
  · intro k
    show f_X5_howManyAre_4 (nI how) (nI (manyN A how (A.1 5))) (nI (A.1 5)) T (fun x2 x3 => k (x2, x3)) = _
    unfold f_X5_howManyAre_4
    rw [c5, if_pos (Int32.le_refl _)]
theorem m_many {A : AT} {t : Nat → Int32} {b how n : Nat} (rm : rM A t) (oa : okA b A) (hh : how < 1000) (hn : n ≤ A.1 5) : f_X8_many (nI how) (nI n) t = some (nI (manyN A how n)) := by
  have a5 := oa.2.2.2.2.2.1
  unfold f_X8_many
  rw [lett_d, lett_d]
  unfold l_X8_many_5
  refine itr_st (fun i => (nI (manyN A how i), nI i)) _ n ?_ ?_ FU 0 (by omega) (by rw [FU_d]; omega)
  · intro i k hi
    have hm := manyN_le A how i
    have c6 : t (26 + 5 * i + 3) = nI (A.2 6 i) := rm.2.2.2.1 3 (by omega) i (by omega)
    have l6 := (oa.2.2.2.2.2.2.2.2.1 i (by omega)).2.2.2.2.2.1
    show f_X8_many_5 (nI how) (nI n) (nI (manyN A how i)) (nI i) t (fun x2 x3 => k (x2, x3)) = k (nI (manyN A how i + (if A.2 6 i = how then 1 else 0)), nI (i + 1))
    unfold f_X8_many_5 f_X8_many_32
    simp (disch := omega) only [litI, leN, pk_mul, nI_add, gi_n, clN, c6, eqN, lett_d]
    rw [if_neg (by omega)]
    by_cases q : A.2 6 i = how
    · rw [if_pos q, if_pos q]
    · rw [if_neg q, if_neg q]
  · intro k
    show f_X8_many_5 (nI how) (nI n) (nI (manyN A how n)) (nI n) t (fun x2 x3 => k (x2, x3)) = _
    unfold f_X8_many_5
    rw [if_pos (Int32.le_refl _)]
def dry0 : Nat → Bool := fun _ => false
theorem dry0_of : dryOf 0 dry0 := by
  intro p hp
  have key : ∀ p : Fin 6, ¬ (((0 : Int32) >>> (nI p.val &&& 31)) &&& 1 = 1) := by decide +kernel
  exact ⟨fun h => absurd h (key ⟨p, hp⟩), fun h => absurd (show false = true from h) (by decide)⟩
def aheadN : Nat → AT → AT
  | 0, A => A
  | n + 1, A => monthN dry0 (aheadN n A)
theorem monthN_1 {dry : Nat → Bool} {A : AT} {k : Nat} (h0 : k ≠ 0) (h2 : k ≠ 2) (h3 : k ≠ 3) : (monthN dry A).1 k = A.1 k := by
  show (setS (paysN (givesN (peopleN dry A))) 2 (A.1 2 + 1)).1 k = _
  rw [setS_k h2, paysN_1 h0 h3, givesN_1 h0, peopleN_1]
theorem aheadN_1 {A : AT} {k : Nat} (h0 : k ≠ 0) (h2 : k ≠ 2) (h3 : k ≠ 3) : ∀ n, (aheadN n A).1 k = A.1 k
  | 0 => rfl
  | n + 1 => by show (monthN dry0 (aheadN n A)).1 k = _; rw [monthN_1 h0 h2 h3]; exact aheadN_1 h0 h2 h3 n
theorem okA_ahead {b : Nat} {A : AT} (h : okA b A) : ∀ n, okA (b + 8 * n) (aheadN n A)
  | 0 => h
  | n + 1 => okA_mono (okA_monthN (okA_ahead h n)) (by omega)
/-- the model with another row 1 -/
def t1N (M : Ms) (t : Nat → Int32) : Ms := (M.1, M.2.1, va_up M.2.2 1 t)
theorem t1N_1 {M : Ms} {t : Nat → Int32} : (t1N M t).2.2 1 = t := (vu_s : va_up M.2.2 1 t 1 = t)
theorem t1N_0 {M : Ms} {t : Nat → Int32} : (t1N M t).2.2 0 = M.2.2 0 := (vu_n (by omega) : va_up M.2.2 1 t 0 = M.2.2 0)
theorem t1N_t {M : Ms} {t t' : Nat → Int32} : ((t1N M t).1, (t1N M t).2.1, va_up (t1N M t).2.2 1 t') = t1N M t' := by
  show (M.1, M.2.1, va_up (va_up M.2.2 1 t) 1 t') = _
  rw [vu_vu]; rfl
theorem SR_t1 {b : Nat} {B : Nat → Int32} {N : Tw} {P : Ps} {I1 : Int32} {T1 : Tw} {P1 : Ps} {I2 : Int32} {T2 : Tw} {P2 : Ps} {X : Tx} {K : Ch} {M : Ms} (h : SR b B N P I1 T1 P1 I2 T2 P2 X K M) (t : Nat → Int32) : SR (b + 96) B N P I1 T1 P1 I2 T2 P2 X K (t1N M t) := SR_96 (SR_frame h rfl rfl (fun r hr => (vu_n (by omega) : va_up M.2.2 1 t r = M.2.2 r)))
/-- what no number or row below the tenth tells apart -/
def sameA (A A' : AT) : Prop := A'.1 = A.1 ∧ ∀ j, j < 10 → A'.2 j = A.2 j
theorem m_tries {A : AT} {M : Ms} (rm : rM A (M.2.2 0)) : ∃ t, f_X8_tries M = some (t1N M t) ∧ rM (fixR A t) t ∧ ∀ k, k < 362 → t k = M.2.2 0 k := by
  unfold f_X8_tries
  have e := m_copy (M.2.2 0) (M.2.2 1) (show 0 + 362 ≤ 362 by omega) (show 0 + 362 ≤ 362 by omega) (by omega) (by omega)
  rw [show (0 : Int32) = nI 0 from rfl, e]
  have hk : ∀ k, k < 362 → va_cpy (M.2.2 0) (M.2.2 1) 0 0 362 k = M.2.2 0 k := by
    intro k hk
    rw [cpy_in (by omega) (by omega)]
    exact congrArg _ (by omega)
  refine ⟨_, rfl, rM_fix ?_, hk⟩
  have hd := rm.1
  refine ⟨hd, fun k hk' => ?_, fun j hj p hp => ?_, fun j hj p hp => ?_, fun j hj p hp => ?_⟩
  · have := ixS_le hk'
    rw [hk _ (by omega)]; exact rm.2.1 k hk'
  · rw [hk _ (by omega)]; exact rm.2.2.1 j hj p hp
  · rw [hk _ (by omega)]; exact rm.2.2.2.1 j hj p hp
  · rw [hk _ (by omega)]; exact rm.2.2.2.2.1 j hj p hp
theorem m_goes {A : AT} {M : Ms} {t : Nat → Int32} {b m : Nat} (rm : rM A t) (oa : okA b A) (hb : b + 8 * m < 900000) (hm : m < 1000) : ok (fun M' => ∃ t', M' = t1N M t' ∧ rM (aheadN m A) t') (l_X8_goes_6 (nI m) FU (nI 0) (t1N M t)) := by
  unfold l_X8_goes_6
  refine itr_rel (fun i z => ∃ t', z = (nI i, t1N M t') ∧ rM (aheadN i A) t') _ m ?_ FU 0 _ ⟨t, rfl, rm⟩ (Nat.zero_le _) (by rw [FU_d]; omega)
  rintro i z hi ⟨t', rfl, h1⟩
  by_cases hlt : i < m
  · left
    obtain ⟨r, er, _, hr⟩ := m_month h1 (okA_ahead oa i) (by omega) dry0_of
    refine ⟨hlt, (nI (i + 1), t1N M r.2), ⟨_, rfl, hr⟩, fun k => ?_⟩
    show f_X8_goes_6 (nI m) (nI i) (t1N M t') _ = _
    unfold f_X8_goes_6
    rw [if_neg (by rw [leN (by omega) (by omega)]; omega), t1N_1, er]
    simp only [bn_s, lett_d]
    rw [t1N_t, show (1 : Int32) = nI 1 from rfl, nI_add]
  · right
    have e : i = m := by omega
    subst e
    refine ⟨some (t1N M t'), ok_s ⟨_, rfl, h1⟩, fun k => ?_⟩
    show f_X8_goes_6 (nI i) (nI i) (t1N M t') _ = _
    unfold f_X8_goes_6
    rw [if_pos (Int32.le_refl _)]
theorem s_look {A : AT} {N R : Tw} {b m : Nat} (rt : rT A N) (oa : okA b A) (hb : b + 8 * m < 900000) (hm : m < 1000) : ok (fun R' => rT (aheadN m A) R') (f_X1_lookAhead (nI m) R N) := by
  unfold f_X1_lookAhead
  refine ok_bn (s_copy R N) (fun T0 h0 => ?_)
  have r0 : rT A T0 := rT_cp rt h0 ⟨oa.2.2.2.2.1, oa.2.2.2.2.2.1, oa.2.2.2.2.2.2.1⟩
  rw [lett_d]
  unfold l_X1_lookAhead_10
  refine itr_rel (fun i z => ∃ T', z = (nI i, T') ∧ rT (aheadN i A) T') _ m ?_ FU 0 _ ⟨T0, rfl, r0⟩ (Nat.zero_le _) (by rw [FU_d]; omega)
  rintro i z hi ⟨T', rfl, h1⟩
  by_cases hlt : i < m
  · left
    obtain ⟨r, er, hr⟩ := s_liveMonth h1 (okA_ahead oa i) (by omega) dry0_of
    refine ⟨hlt, (nI (i + 1), r), ⟨_, rfl, hr⟩, fun k => ?_⟩
    show f_X1_lookAhead_10 (nI m) (nI i) T' N _ _ = _
    unfold f_X1_lookAhead_10
    rw [if_neg (by rw [leN (by omega) (by omega)]; omega), er]
    simp only [bn_s, lett_d]
    rw [show (1 : Int32) = nI 1 from rfl, nI_add]
  · right
    have e : i = m := by omega
    subst e
    refine ⟨some T', ok_s h1, fun k => ?_⟩
    show f_X1_lookAhead_10 (nI i) (nI i) T' N _ _ = _
    unfold f_X1_lookAhead_10
    rw [if_pos (Int32.le_refl _)]
    rfl
/-- both look ahead -/
theorem ahead_both {A : AT} {N R : Tw} {M : Ms} {b m : Nat} (rt : rT A N) (rm : rM A (M.2.2 0)) (oa : okA b A) (hb : b < 100000) (hm : m ≤ 60) : ∃ A' R' t, f_X1_lookAhead (nI m) R N = some R' ∧ f_X8_goes (nI m) M = some (t1N M t) ∧ rT (aheadN m A') R' ∧ rM (aheadN m A') t ∧ okA b A' ∧ sameA A A' := by
  obtain ⟨t, e, rmt, _⟩ := m_tries rm
  have oa' : okA b (fixR A t) := okA_fix oa
  obtain ⟨R', e1, h1⟩ := s_look (R := R) (rT_fix (t := t) rt) oa' (m := m) (by omega) (by omega)
  obtain ⟨M', e2, t2, rfl, h2⟩ := m_goes (M := M) rmt oa' (m := m) (by omega) (by omega)
  refine ⟨fixR A t, R', t2, e1, ?_, h1, h2, oa', rfl, fun j hj => fixR_j (by omega)⟩
  unfold f_X8_goes
  rw [e]
  exact e2
section
variable {b : Nat} {B : Nat → Int32} {N : Tw} {P : Ps} {I1 : Int32} {T1 : Tw} {P1 : Ps} {I2 : Int32} {T2 : Tw} {P2 : Ps} {X : Tx} {K : Ch} {M : Ms}
theorem q_foretold (h : SR b B N P I1 T1 P1 I2 T2 P2 X K M) (hb : b < 100000) (R : Tw) (x y : Int32) : ∃ r B' R' M', f_X7_foretold x y B N R = some (r, B', R') ∧ f_X8_foretold x y M = some (r, M') ∧ SR (b + 96) B' N P I1 T1 P1 I2 T2 P2 X K M' := by
  obtain ⟨A, H, rt, rm, oa, rp, rmp, op⟩ := h.2.1
  unfold f_X7_foretold f_X8_foretold f_X7_foretold_19 f_X8_foretold_19
  rcases in_cases x 0 60 (by omega) (by omega) with ⟨m, _, hm, e, e8, e7⟩ | ⟨e8, e7⟩
  · rw [show f_X7_within x 0 60 = some 1 from e7, show f_X8_in x 0 60 = some 1 from e8]
    rcases in_cases y 0 4 (by omega) (by omega) with ⟨j, _, hj, f, f8, f7⟩ | ⟨f8, f7⟩
    · rw [show f_X7_within y 0 4 = some 1 from f7, show f_X8_in y 0 4 = some 1 from f8]
      subst e f
      simp only [bn_s, if_neg i10]
      obtain ⟨A', R', t, g1, g2, rt', rm', oa', _⟩ := ahead_both (R := R) rt rm oa hb hm
      rw [g1, g2]
      have ok' := okA_ahead oa' m
      have c5 := rm'.2.1 5 (by omega)
      have c0 := rm'.2.1 0 (by omega)
      have c3 := rm'.2.1 3 (by omega)
      have c5' : t 4 = nI ((aheadN m A').1 5) := c5
      have c0' : t 0 = nI ((aheadN m A').1 0) := c0
      have c3' : t 6 = nI ((aheadN m A').1 3) := c3
      unfold f_X8_foretold_80
      simp (disch := omega) only [litI, bn_s, gi_n, clN, t1N_1, c5', c0', c3', rt'.1, eqN, s_howMany rt' ok', m_many rm' ok', Nat.le_refl]
      have hj' : j = 0 ∨ j = 1 ∨ j = 2 ∨ j = 3 ∨ j = 4 := by omega
      rcases hj' with q | q | q | q | q
      · subst q; simp (decide := true) only [if_true, if_false]; exact ⟨_, _, _, _, rfl, rfl, SR_t1 h t⟩
      · subst q; simp (decide := true) only [if_true, if_false]; exact ⟨_, _, _, _, rfl, rfl, SR_t1 h t⟩
      · subst q; simp (decide := true) only [if_true, if_false]; exact ⟨_, _, _, _, rfl, rfl, SR_t1 h t⟩
      · subst q; simp (decide := true) only [if_true, if_false]; exact ⟨_, _, _, _, rfl, rfl, SR_t1 h t⟩
      · subst q; simp (decide := true) only [if_true, if_false]; exact ⟨_, _, _, _, rfl, rfl, SR_t1 h t⟩
    · rw [show f_X7_within y 0 4 = some 0 from f7, show f_X8_in y 0 4 = some 0 from f8]
      simp only [bn_s, if_true, if_neg i10, bad7, bad8]
      exact ⟨_, _, _, _, rfl, rfl, SR_bad h⟩
  · rw [show f_X7_within x 0 60 = some 0 from e7, show f_X8_in x 0 60 = some 0 from e8]
    simp only [bn_s, if_true, bad7, bad8]
    exact ⟨_, _, _, _, rfl, rfl, SR_bad h⟩
theorem q_purse (h : SR b B N P I1 T1 P1 I2 T2 P2 X K M) (hb : b < 100000) (R : Tw) (x y : Int32) : ∃ r B' R' M', f_X7_purse x y B N R = some (r, B', R') ∧ f_X8_purse x y M = some (r, M') ∧ SR (b + 96) B' N P I1 T1 P1 I2 T2 P2 X K M' := by
  obtain ⟨A, H, rt, rm, oa, rp, rmp, op⟩ := h.2.1
  unfold f_X7_purse f_X8_purse f_X7_purse_21 f_X8_purse_18
  rcases in_cases x 0 60 (by omega) (by omega) with ⟨m, _, hm, e, e8, e7⟩ | ⟨e8, e7⟩
  · rw [show f_X7_within x 0 60 = some 1 from e7, show f_X8_in x 0 60 = some 1 from e8]
    rcases person_cases rt rm oa y with ⟨p, hp, f, f8, f7⟩ | ⟨f8, f7⟩
    · rw [f7, f8]
      subst e f
      simp only [bn_s, if_neg i10]
      obtain ⟨A', R', t, g1, g2, rt', rm', oa', sA⟩ := ahead_both (R := R) rt rm oa hb hm
      rw [g1, g2]
      have a4 := oa.2.2.2.2.1
      have hp' : p < (aheadN m A').1 4 := by rw [aheadN_1 (by omega) (by omega) (by omega), sA.1]; exact hp
      have c := rt'.2.1 2 (by omega) p hp'
      have d := rm'.2.2.1 2 (by omega) p hp'
      simp (disch := omega) only [litI, bn_s, pk_mul, nI_add, gi_n, clN, t1N_1, c, d]
      exact ⟨_, _, _, _, rfl, rfl, SR_t1 h t⟩
    · rw [f7, f8]
      simp only [bn_s, if_true, if_neg i10, bad7, bad8]
      exact ⟨_, _, _, _, rfl, rfl, SR_bad h⟩
  · rw [show f_X7_within x 0 60 = some 0 from e7, show f_X8_in x 0 60 = some 0 from e8]
    simp only [bn_s, if_true, bad7, bad8]
    exact ⟨_, _, _, _, rfl, rfl, SR_bad h⟩
theorem q_loanThen (h : SR b B N P I1 T1 P1 I2 T2 P2 X K M) (hb : b < 100000) (R : Tw) (x y z : Int32) : ∃ r B' R' M', f_X7_loanThen x y z B N R = some (r, B', R') ∧ f_X8_loanThen x y z M = some (r, M') ∧ SR (b + 96) B' N P I1 T1 P1 I2 T2 P2 X K M' := by
  obtain ⟨A, H, rt, rm, oa, rp, rmp, op⟩ := h.2.1
  unfold f_X7_loanThen f_X8_loanThen f_X7_loanThen_30 f_X8_loanThen_27
  rcases in_cases x 0 60 (by omega) (by omega) with ⟨m, _, hm, e, e8, e7⟩ | ⟨e8, e7⟩
  · rw [show f_X7_within x 0 60 = some 1 from e7, show f_X8_in x 0 60 = some 1 from e8]
    rcases loan_cases rt rm oa y with ⟨l, hl, f, f8, f7⟩ | ⟨f8, f7⟩
    · rw [f7, f8]
      rcases in_cases z 0 1 (by omega) (by omega) with ⟨j, _, hj, g, g8, g7⟩ | ⟨g8, g7⟩
      · rw [show f_X7_within z 0 1 = some 1 from g7, show f_X8_in z 0 1 = some 1 from g8]
        subst e f g
        simp only [bn_s, if_neg i10]
        obtain ⟨A', R', t, g1, g2, rt', rm', oa', sA⟩ := ahead_both (R := R) rt rm oa hb hm
        rw [g1, g2]
        have a5 := oa.2.2.2.2.2.1
        have hl' : l < (aheadN m A').1 5 := by rw [aheadN_1 (by omega) (by omega) (by omega), sA.1]; exact hl
        have c6 := rt'.2.2.1 6 (by omega) (by omega) l hl'
        have c7 := rt'.2.2.1 7 (by omega) (by omega) l hl'
        have d := rm'.2.2.2.1 (3 + j) (by omega) l hl'
        rw [← Nat.add_assoc] at d
        simp (disch := omega) only [litI, bn_s, pk_mul, nI_add, gi_n, clN, t1N_1, c6, c7, d, eqN]
        by_cases q : j = 0
        · subst q; simp (decide := true) only [if_true, if_false]; exact ⟨_, _, _, _, rfl, rfl, SR_t1 h t⟩
        · have q1 : j = 1 := by omega
          subst q1; rw [if_neg (by omega)]; exact ⟨_, _, _, _, rfl, rfl, SR_t1 h t⟩
      · rw [show f_X7_within z 0 1 = some 0 from g7, show f_X8_in z 0 1 = some 0 from g8]
        simp only [bn_s, if_true, if_neg i10, bad7, bad8]
        exact ⟨_, _, _, _, rfl, rfl, SR_bad h⟩
    · rw [f7, f8]
      simp only [bn_s, if_true, if_neg i10, bad7, bad8]
      exact ⟨_, _, _, _, rfl, rfl, SR_bad h⟩
  · rw [show f_X7_within x 0 60 = some 0 from e7, show f_X8_in x 0 60 = some 0 from e8]
    simp only [bn_s, if_true, bad7, bad8]
    exact ⟨_, _, _, _, rfl, rfl, SR_bad h⟩
end
