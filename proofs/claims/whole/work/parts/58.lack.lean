/-! PURE: the first lack. -/
def set10 (A : AT) (f : Nat → Nat) : AT := (A.1, fun j => if j = 10 then f else A.2 j)
theorem fixR_10s {A : AT} {t : Nat → Int32} : fixR A t = set10 A (fun k => (t k).toUInt32.toNat) := rfl
theorem set10_j {A : AT} {f : Nat → Nat} {j : Nat} (h : j ≠ 10) : (set10 A f).2 j = A.2 j := if_neg h
theorem setS_10 {A : AT} {f : Nat → Nat} {k x : Nat} : setS (set10 A f) k x = set10 (setS A k x) f := rfl
theorem setA_10 {A : AT} {f : Nat → Nat} {j k x : Nat} (h : j ≠ 10) : setA (set10 A f) j k x = set10 (setA A j k x) f := by
  unfold setA set10
  congr 1
  funext i
  show (if i = j then updN (if j = 10 then f else A.2 j) k x else if i = 10 then f else A.2 i) = (if i = 10 then f else if i = j then updN (A.2 j) k x else A.2 i)
  by_cases e : i = j
  · rw [if_pos e, if_neg h, if_neg (by omega), if_pos e]
  · rw [if_neg e]
    by_cases q : i = 10
    · rw [if_pos q, if_pos q]
    · rw [if_neg q, if_neg q, if_neg e]
theorem stP_10 {dry : Nat → Bool} {A : AT} {f : Nat → Nat} {p : Nat} : stP dry p (set10 A f) = set10 (stP dry p A) f := by
  unfold stP
  rw [setA_10 (by omega), set10_j (by omega), set10_j (by omega), set10_j (by omega)]
  rfl
theorem giveN_10 {A : AT} {f : Nat → Nat} {l : Nat} : giveN l (set10 A f) = set10 (giveN l A) f := by
  unfold giveN needN
  simp only [set10_j (A := A) (f := f) (show (0 : Nat) ≠ 10 by omega), set10_j (A := A) (f := f) (show (2 : Nat) ≠ 10 by omega), set10_j (A := A) (f := f) (show (3 : Nat) ≠ 10 by omega), set10_j (A := A) (f := f) (show (4 : Nat) ≠ 10 by omega), set10_j (A := A) (f := f) (show (5 : Nat) ≠ 10 by omega), set10_j (A := A) (f := f) (show (6 : Nat) ≠ 10 by omega), set10_j (A := A) (f := f) (show (7 : Nat) ≠ 10 by omega), setA_10 (show (2 : Nat) ≠ 10 by omega), setS_10, setA_10 (show (6 : Nat) ≠ 10 by omega), setA_10 (show (7 : Nat) ≠ 10 by omega)]
  by_cases h0 : A.2 6 l = 0
  · simp only [if_pos h0]
    by_cases h1 : A.2 2 (A.2 3 l) < (if A.2 0 (A.2 3 l) = 5 then 2 * A.2 4 l else A.2 4 l)
    · simp only [if_pos h1]
    · simp only [if_neg h1]
      by_cases h2 : A.2 7 l + 1 = A.2 5 l
      · simp only [if_pos h2]; rfl
      · simp only [if_neg h2]; rfl
  · simp only [if_neg h0]
theorem payN_10 {A : AT} {f : Nat → Nat} {l : Nat} : payN l (set10 A f) = set10 (payN l A) f := by
  have ew : wholeN (set10 A f) l = wholeN A l := rfl
  unfold payN
  rw [ew]
  simp only [set10_j (A := A) (f := f) (show (2 : Nat) ≠ 10 by omega), set10_j (A := A) (f := f) (show (3 : Nat) ≠ 10 by omega), set10_j (A := A) (f := f) (show (6 : Nat) ≠ 10 by omega), setS_10, setA_10 (show (2 : Nat) ≠ 10 by omega), setA_10 (show (6 : Nat) ≠ 10 by omega)]
  by_cases h0 : A.2 6 l = 3
  · simp only [if_pos h0]
    by_cases h1 : A.1 0 < wholeN A l
    · rw [if_pos h1, if_pos (show (set10 A f).1 0 < wholeN A l from h1)]; rfl
    · rw [if_neg h1, if_neg (show ¬ (set10 A f).1 0 < wholeN A l from h1)]; rfl
  · simp only [if_neg h0]
theorem foldN_10 {g : Nat → AT → AT} {A : AT} {f : Nat → Nat} (hg : ∀ i X, g i (set10 X f) = set10 (g i X) f) : ∀ n, foldN g n (set10 A f) = set10 (foldN g n A) f
  | 0 => rfl
  | n + 1 => by show g n (foldN g n (set10 A f)) = _; rw [foldN_10 hg n, hg]; rfl
theorem month_10 {dry : Nat → Bool} {A : AT} {f : Nat → Nat} : monthN dry (set10 A f) = set10 (monthN dry A) f := by
  have h1 : peopleN dry (set10 A f) = set10 (peopleN dry A) f := foldN_10 (fun _ _ => stP_10) _
  have h2 : ∀ Y, givesN (set10 Y f) = set10 (givesN Y) f := fun Y => foldN_10 (fun _ _ => giveN_10) _
  have h3 : ∀ Y, paysN (set10 Y f) = set10 (paysN Y) f := fun Y => foldN_10 (fun _ _ => payN_10) _
  unfold monthN
  rw [h1, h2, h3, setS_10]
  rfl
theorem ahead_10 {A : AT} {f : Nat → Nat} : ∀ n, aheadN n (set10 A f) = set10 (aheadN n A) f
  | 0 => rfl
  | n + 1 => by show monthN dry0 (aheadN n (set10 A f)) = _; rw [ahead_10 n, month_10]; rfl
theorem setS_self {A : AT} {k : Nat} : setS A k (A.1 k) = A := by
  unfold setS updN
  have e : (fun j => if j = k then A.1 k else A.1 j) = A.1 := by
    funext j
    by_cases q : j = k
    · rw [if_pos q, q]
    · rw [if_neg q]
  rw [e]
theorem payN_3 {l : Nat} {A : AT} : A.1 3 ≤ (payN l A).1 3 := by
  unfold payN
  split
  · split
    · rw [setS_same]; omega
    · exact Nat.le_refl _
  · exact Nat.le_refl _
theorem foldpay_3 {A : AT} : ∀ n, A.1 3 ≤ (foldN payN n A).1 3
  | 0 => Nat.le_refl _
  | n + 1 => Nat.le_trans (foldpay_3 n) payN_3
theorem month_3 {dry : Nat → Bool} {A : AT} : A.1 3 ≤ (monthN dry A).1 3 := by
  show _ ≤ (setS (paysN (givesN (peopleN dry A))) 2 (A.1 2 + 1)).1 3
  rw [setS_k (by omega)]
  refine Nat.le_trans ?_ (foldpay_3 _)
  rw [givesN_1 (by omega), peopleN_1]
  exact Nat.le_refl _
theorem lack_loops {A : AT} {N0 T : Tw} {M : Ms} {t : Nat → Int32} {b m : Nat} (rt : rT A N0) (rm : rM A t) (oa : okA b A) (hT : T.1 3 = nI (A.1 3)) (hb : b < 100000) (hm : m ≤ 60) : ∃ x R' t', l_X1_firstLack_19 (nI m) T FU (nI 0) N0 = some (x, R') ∧ l_X8_firstLack_2 (nI m) FU (nI 0) (t1N M t) = some (x, t1N M t') ∧ ((x = -1 ∧ (aheadN m A).1 3 = A.1 3) ∨ ∃ i, i < m ∧ x = nI i ∧ A.1 3 < (aheadN (i + 1) A).1 3) := by
  unfold l_X1_firstLack_19 l_X8_firstLack_2
  refine itr_two (fun i z w => ∃ N' t', z = (nI i, N') ∧ w = (nI i, t1N M t') ∧ rT (aheadN i A) N' ∧ rM (aheadN i A) t' ∧ (aheadN i A).1 3 = A.1 3) (fun r s => ∃ x R' t', r = some (x, R') ∧ s = some (x, t1N M t') ∧ ((x = -1 ∧ (aheadN m A).1 3 = A.1 3) ∨ ∃ i, i < m ∧ x = nI i ∧ A.1 3 < (aheadN (i + 1) A).1 3)) m ?_ FU 0 _ _ ⟨N0, t, rfl, rfl, rt, rm, rfl⟩ (Nat.zero_le _) (by rw [FU_d]; omega)
  rintro i z w hi ⟨N', t', rfl, rfl, rt', rm', e3⟩
  by_cases hlt : i < m
  · have oi := okA_ahead oa i
    obtain ⟨T2, l1, l2⟩ := s_liveMonth rt' oi (by omega) dry0_of
    obtain ⟨r2, m1, _, m3⟩ := m_month rm' oi (by omega) dry0_of
    have o2 := okA_ahead oa (i + 1)
    have c3 : T2.1 3 = nI ((aheadN (i + 1) A).1 3) := l2.1 3 (by omega)
    have d3 : r2.2 6 = nI ((aheadN (i + 1) A).1 3) := m3.2.1 3 (by omega)
    have d3' : t' 6 = nI (A.1 3) := by rw [← e3]; exact rm'.2.1 3 (by omega)
    have up : A.1 3 ≤ (aheadN (i + 1) A).1 3 := by rw [← e3]; exact month_3
    have q1 := o2.2.2.2.1
    have q2 := oa.2.2.2.1
    by_cases c : (aheadN (i + 1) A).1 3 ≤ A.1 3
    · left
      refine ⟨hlt, (nI (i + 1), T2), (nI (i + 1), t1N M r2.2), ⟨T2, r2.2, rfl, rfl, l2, m3, by omega⟩, fun k => ?_, fun k => ?_⟩
      · show f_X1_firstLack_19 (nI m) (nI i) N' T _ = _
        unfold f_X1_firstLack_19
        rw [if_neg (by rw [leN (by omega) (by omega)]; omega), l1]
        simp only [bn_s, lett_d]
        rw [if_pos (by rw [c3, hT, leN (by omega) (by omega)]; exact c), show (1 : Int32) = nI 1 from rfl, nI_add]
      · show f_X8_firstLack_2 (nI m) (nI i) (t1N M t') _ = _
        unfold f_X8_firstLack_2
        rw [if_neg (by rw [leN (by omega) (by omega)]; omega), t1N_1, m1]
        simp only [bn_s, lett_d, vu_s]
        rw [show (6 : Int32) = nI 6 from rfl, gi_n (by omega) (by omega), gi_n (by omega) (by omega), clN (by omega), if_pos (by rw [d3, d3', leN (by omega) (by omega)]; exact c), t1N_t, show (1 : Int32) = nI 1 from rfl, nI_add]
    · right
      refine ⟨some (nI i, T2), some (nI i, t1N M r2.2), ⟨nI i, T2, r2.2, rfl, rfl, Or.inr ⟨i, hlt, rfl, by omega⟩⟩, fun k => ?_, fun k => ?_⟩
      · show f_X1_firstLack_19 (nI m) (nI i) N' T _ = _
        unfold f_X1_firstLack_19
        rw [if_neg (by rw [leN (by omega) (by omega)]; omega), l1]
        simp only [bn_s, lett_d]
        rw [if_neg (by rw [c3, hT, leN (by omega) (by omega)]; exact c)]
      · show f_X8_firstLack_2 (nI m) (nI i) (t1N M t') _ = _
        unfold f_X8_firstLack_2
        rw [if_neg (by rw [leN (by omega) (by omega)]; omega), t1N_1, m1]
        simp only [bn_s, lett_d, vu_s]
        rw [show (6 : Int32) = nI 6 from rfl, gi_n (by omega) (by omega), gi_n (by omega) (by omega), clN (by omega), if_neg (by rw [d3, d3', leN (by omega) (by omega)]; exact c), t1N_t]
  · right
    have e : i = m := by omega
    subst e
    refine ⟨some (-1, N'), some (-1, t1N M t'), ⟨-1, N', t', rfl, rfl, Or.inl ⟨rfl, e3⟩⟩, fun k => ?_, fun k => ?_⟩
    · show f_X1_firstLack_19 (nI i) (nI i) N' T _ = _
      unfold f_X1_firstLack_19
      rw [if_pos (Int32.le_refl _)]
    · show f_X8_firstLack_2 (nI i) (nI i) (t1N M t') _ = _
      unfold f_X8_firstLack_2
      rw [if_pos (Int32.le_refl _)]
theorem okA_c {b c : Nat} {A : AT} (oa : okA b A) (hc : c ≤ 99999) : okA b (setS A 0 c) := okA_chest oa hc
/-- both look for the first lack, were c in the chest: the class from now, the model from the copy t -/
theorem first_both {A : AT} {N R : Tw} {M : Ms} {t : Nat → Int32} {b m c : Nat} (rt : rT A N) (rm : rM (set10 (setS A 0 c) (fun k => (t k).toUInt32.toNat)) t) (oa : okA b A) (hc : c ≤ 99999) (hb : b < 100000) (hm : m ≤ 60) : ∃ x R' t', f_X1_firstLack (nI c) (nI m) R N = some (x, R') ∧ f_X8_firstLack (nI m) (t1N M t) = some (x, t1N M t') ∧ ((x = -1 ∧ (aheadN m (setS A 0 c)).1 3 = A.1 3) ∨ ∃ i, i < m ∧ x = nI i ∧ A.1 3 < (aheadN (i + 1) (setS A 0 c)).1 3) := by
  unfold f_X1_firstLack f_X8_firstLack
  obtain ⟨T0, e0, h0⟩ := s_copy R N
  have hd : A.1 4 ≤ 6 ∧ A.1 5 ≤ 8 ∧ A.1 6 ≤ 8 := ⟨oa.2.2.2.2.1, oa.2.2.2.2.2.1, oa.2.2.2.2.2.2.1⟩
  have r0 : rT (setS A 0 c) (upd T0.1 0 (nI c), T0.2) := rT_setS (rT_cp rt h0 hd) (by omega)
  have r1 : rT (set10 (setS A 0 c) (fun k => (t k).toUInt32.toNat)) (upd T0.1 0 (nI c), T0.2) := rT_fix (t := t) r0
  have o1 : okA b (set10 (setS A 0 c) (fun k => (t k).toUInt32.toNat)) := okA_fix (t := t) (okA_chest oa hc)
  obtain ⟨x, R', t', e1, e2, h⟩ := lack_loops (M := M) (T := N) r1 rm o1 (rt.1 3 (by omega)) hb hm
  refine ⟨x, R', t', ?_, ?_, ?_⟩
  · rw [e0]; exact e1
  · exact e2
  · simp only [ahead_10] at h; exact h
section
variable {b : Nat} {B : Nat → Int32} {N : Tw} {P : Ps} {I1 : Int32} {T1 : Tw} {P1 : Ps} {I2 : Int32} {T2 : Tw} {P2 : Ps} {X : Tx} {K : Ch} {M : Ms}
theorem q_lack (h : SR b B N P I1 T1 P1 I2 T2 P2 X K M) (hb : b < 100000) (R : Tw) (x : Int32) : ∃ r B' R' M', f_X7_lack x B N R = some (r, B', R') ∧ f_X8_lack x M = some (r, M') ∧ SR (b + 96) B' N P I1 T1 P1 I2 T2 P2 X K M' := by
  obtain ⟨A, H, rt, rm, oa, rp, rmp, op⟩ := h.2.1
  unfold f_X7_lack f_X8_lack
  rcases in_cases x 0 60 (by omega) (by omega) with ⟨m, _, hm, e, e8, e7⟩ | ⟨e8, e7⟩
  · rw [show f_X7_within x 0 60 = some 1 from e7, show f_X8_in x 0 60 = some 1 from e8]
    subst e
    simp only [bn_s, if_neg i10]
    obtain ⟨t, et, rmt, _⟩ := m_tries rm
    have rmt' : rM (set10 (setS A 0 (A.1 0)) (fun k => (t k).toUInt32.toNat)) t := by rw [setS_self]; exact rmt
    obtain ⟨y, R', t', f1, f2, _⟩ := first_both (R := R) (M := M) rt rmt' oa oa.1 hb hm
    rw [rt.1 0 (by omega), f1, et]
    simp only [bn_s]
    rw [f2]
    simp only [bn_s]
    exact ⟨_, _, _, _, rfl, rfl, SR_t1 h t'⟩
  · rw [show f_X7_within x 0 60 = some 0 from e7, show f_X8_in x 0 60 = some 0 from e8]
    simp only [bn_s, if_true, bad7, bad8]
    exact ⟨_, _, _, _, rfl, rfl, SR_bad h⟩
end
