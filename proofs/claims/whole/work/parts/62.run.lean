/-! PURE: a run. -/
def wantN (A : AT) (l : Nat) : Nat := if A.2 6 l = 3 then wholeN A l else if A.2 6 l = 0 then A.2 4 l * A.2 7 l else if A.2 6 l = 2 then A.2 4 l * A.2 7 l else 0
theorem pg_le {p g : Nat} (hp : p ≤ 99) (hg : g ≤ 12) : p * g ≤ 1188 := Nat.le_trans (Nat.mul_le_mul hp hg) (by omega)
theorem wantN_le {A : AT} {b l : Nat} (oa : okA b A) (hl : l < A.1 5) : wantN A l ≤ 1782 := by
  have h := wholeN_le oa hl
  obtain ⟨l1, l2, l3, l4, l5, l6, l7, l8⟩ := oa.2.2.2.2.2.2.2.2.1 l hl
  have := pg_le l3 (Nat.le_trans l7 l5)
  unfold wantN
  split
  · exact h
  · split
    · omega
    · split <;> omega
theorem s_want {A : AT} {T : Tw} {b l : Nat} (rt : rT A T) (oa : okA b A) (hl : l < A.1 5) : f_X5_wantOf (nI l) T = some (nI (wantN A l)) := by
  have a5 := oa.2.2.2.2.2.1
  obtain ⟨l1, l2, l3, l4, l5, l6, l7, l8⟩ := oa.2.2.2.2.2.2.2.2.1 l hl
  have c4 := rt.2.2.1 4 (by omega) (by omega) l hl
  have c6 := rt.2.2.1 6 (by omega) (by omega) l hl
  have c7 := rt.2.2.1 7 (by omega) (by omega) l hl
  unfold f_X5_wantOf f_X5_wantOf_35 f_X5_givenPence wantN
  rw [s_wholeOf rt oa hl]
  simp (disch := omega) only [litI, gi_n, clN, c4, c6, c7, eqN, pk_mul, bn_s]
  split
  · rfl
  · split
    · rfl
    · split <;> rfl
theorem m_want {A : AT} {M : Ms} {b l : Nat} (rm : rM A (M.2.2 0)) (oa : okA b A) (hl : l < A.1 5) : f_X8_wants (nI l) M = some (nI (wantN A l)) := by
  have a5 := oa.2.2.2.2.2.1
  obtain ⟨l1, l2, l3, l4, l5, l6, l7, l8⟩ := oa.2.2.2.2.2.2.2.2.1 l hl
  have c4 : (M.2.2 0) (26 + 5 * l + 1) = nI (A.2 4 l) := rm.2.2.2.1 1 (by omega) l hl
  have c6 : (M.2.2 0) (26 + 5 * l + 3) = nI (A.2 6 l) := rm.2.2.2.1 3 (by omega) l hl
  have c7 : (M.2.2 0) (26 + 5 * l + 4) = nI (A.2 7 l) := rm.2.2.2.1 4 (by omega) l hl
  unfold f_X8_wants f_X8_wants_39 f_X8_given wantN
  rw [m_whole rm oa hl]
  simp (disch := omega) only [litI, nI_add, gi_n, clN, c4, c6, c7, eqN, pk_mul, bn_s, lett_d]
  split
  · rfl
  · split
    · rfl
    · split <;> rfl
/-- what is left, and how many were paid, before the i-th -/
def runN (A : AT) : Nat → Nat × Nat
  | 0 => (A.1 0, 0)
  | i + 1 => if wantN A i = 0 ∨ (runN A i).1 < wantN A i then runN A i else ((runN A i).1 - wantN A i, (runN A i).2 + 1)
theorem runN_le {A : AT} {b : Nat} (oa : okA b A) : ∀ i, (runN A i).1 ≤ 99999 ∧ (runN A i).2 ≤ i
  | 0 => ⟨oa.1, Nat.le_refl _⟩
  | i + 1 => by
    have := runN_le oa i
    show (if wantN A i = 0 ∨ (runN A i).1 < wantN A i then runN A i else ((runN A i).1 - wantN A i, (runN A i).2 + 1)).1 ≤ 99999 ∧ (if wantN A i = 0 ∨ (runN A i).1 < wantN A i then runN A i else ((runN A i).1 - wantN A i, (runN A i).2 + 1)).2 ≤ i + 1
    split
    · omega
    · show (runN A i).1 - wantN A i ≤ 99999 ∧ (runN A i).2 + 1 ≤ i + 1
      omega
theorem s_paid {A : AT} {T : Tw} {b : Nat} (rt : rT A T) (oa : okA b A) : f_X5_paidInOrder T = some (nI (runN A (A.1 5)).2) := by
  have a5 := oa.2.2.2.2.2.1
  have c5 := rt.1 5 (by omega)
  unfold f_X5_paidInOrder
  rw [lett_d, lett_d, rt.1 0 (by omega)]
  unfold l_X5_paidInOrder_9
  refine itr_st (fun i => (nI (runN A i).1, nI (runN A i).2, nI i)) _ (A.1 5) ?_ ?_ FU 0 (by omega) (by rw [FU_d]; omega)
  · intro i k hi
    have hr := runN_le oa i
    have hw := wantN_le oa hi
    show f_X5_paidInOrder_9 (nI (runN A i).1) (nI (runN A i).2) (nI i) T (fun x1 x2 x3 => k (x1, x2, x3)) = k (nI (if wantN A i = 0 ∨ (runN A i).1 < wantN A i then runN A i else ((runN A i).1 - wantN A i, (runN A i).2 + 1)).1, nI (if wantN A i = 0 ∨ (runN A i).1 < wantN A i then runN A i else ((runN A i).1 - wantN A i, (runN A i).2 + 1)).2, nI (i + 1))
    unfold f_X5_paidInOrder_9 f_X5_paidInOrder_43
    rw [s_want rt oa hi]
    simp (disch := omega) only [litI, c5, leN, bn_s, lett_d, nI_add, ltN]
    rw [if_neg (by omega)]
    by_cases q : wantN A i = 0
    · rw [if_pos (by omega), if_pos (Or.inl q)]
    · rw [if_neg (by omega)]
      by_cases r : (runN A i).1 < wantN A i
      · rw [if_pos r, if_pos (Or.inr r)]
      · rw [if_neg r, if_neg (by omega), subN (by omega)]
  · intro k
    show f_X5_paidInOrder_9 (nI (runN A (A.1 5)).1) (nI (runN A (A.1 5)).2) (nI (A.1 5)) T (fun x1 x2 x3 => k (x1, x2, x3)) = _
    unfold f_X5_paidInOrder_9
    rw [c5, if_pos (Int32.le_refl _)]
theorem s_left {A : AT} {T : Tw} {b : Nat} (rt : rT A T) (oa : okA b A) : f_X5_leftInOrder T = some (nI (runN A (A.1 5)).1) := by
  have a5 := oa.2.2.2.2.2.1
  have c5 := rt.1 5 (by omega)
  unfold f_X5_leftInOrder
  rw [lett_d, rt.1 0 (by omega)]
  unfold l_X5_leftInOrder_7
  refine itr_st (fun i => (nI (runN A i).1, nI i)) _ (A.1 5) ?_ ?_ FU 0 (by omega) (by rw [FU_d]; omega)
  · intro i k hi
    have hr := runN_le oa i
    have hw := wantN_le oa hi
    show f_X5_leftInOrder_7 (nI (runN A i).1) (nI i) T (fun x1 x3 => k (x1, x3)) = k (nI (if wantN A i = 0 ∨ (runN A i).1 < wantN A i then runN A i else ((runN A i).1 - wantN A i, (runN A i).2 + 1)).1, nI (i + 1))
    unfold f_X5_leftInOrder_7 f_X5_leftInOrder_32
    rw [s_want rt oa hi]
    simp (disch := omega) only [litI, c5, leN, bn_s, lett_d, nI_add, ltN]
    rw [if_neg (by omega)]
    by_cases r : (runN A i).1 < wantN A i
    · rw [if_pos r, if_pos (Or.inr r)]
    · rw [if_neg r, subN (by omega)]
      by_cases q : wantN A i = 0
      · rw [if_pos (Or.inl q), q, Nat.sub_zero]
      · rw [if_neg (by omega)]
  · intro k
    show f_X5_leftInOrder_7 (nI (runN A (A.1 5)).1) (nI (A.1 5)) T (fun x1 x3 => k (x1, x3)) = _
    unfold f_X5_leftInOrder_7
    rw [c5, if_pos (Int32.le_refl _)]
theorem m_runs {A : AT} {M : Ms} {b : Nat} (rm : rM A (M.2.2 0)) (oa : okA b A) : ok (fun M' => M'.2 = M.2 ∧ M'.1 0 = M.1 0 ∧ M'.1 5 = nI (runN A (A.1 5)).2 ∧ M'.1 6 = nI (runN A (A.1 5)).1) (f_X8_runs M) := by
  have a5 := oa.2.2.2.2.2.1
  have c0 : (M.2.2 0) 0 = nI (A.1 0) := rm.2.1 0 (by omega)
  have c4 : (M.2.2 0) 4 = nI (A.1 5) := rm.2.1 5 (by omega)
  unfold f_X8_runs
  simp (disch := omega) only [litI, lett_d, gi_n, clN, c0]
  unfold l_X8_runs_17
  refine itr_rel (fun i z => ∃ f, z = (nI i, (f, M.2)) ∧ f 0 = M.1 0 ∧ f 5 = nI (runN A i).2 ∧ f 6 = nI (runN A i).1) _ (A.1 5) ?_ FU 0 _ ⟨_, rfl, ?_, ?_, ?_⟩ (Nat.zero_le _) (by rw [FU_d]; omega)
  · rintro i z hi ⟨f, rfl, f0, f5, f6⟩
    by_cases hlt : i < A.1 5
    · left
      have hr := runN_le oa i
      have hw := wantN_le oa hlt
      have mw := m_want (M := (f, M.2)) rm oa hlt
      by_cases q : wantN A i = 0 ∨ (runN A i).1 < wantN A i
      · have es : runN A (i + 1) = runN A i := if_pos q
        refine ⟨hlt, (nI (i + 1), (f, M.2)), ⟨f, rfl, f0, by rw [es]; exact f5, by rw [es]; exact f6⟩, fun k => ?_⟩
        show f_X8_runs_17 (nI i) (f, M.2) _ = _
        unfold f_X8_runs_17 f_X8_runs_65
        rw [mw]
        simp (disch := omega) only [litI, gi_n, clN, c4, leN, bn_s, lett_d, nI_add, f6, ltN]
        rw [if_neg (by omega)]
        by_cases r : wantN A i = 0
        · rw [if_pos (by omega)]
        · rw [if_neg (by omega), if_pos (by omega)]
      · have es : runN A (i + 1) = ((runN A i).1 - wantN A i, (runN A i).2 + 1) := if_neg q
        refine ⟨hlt, (nI (i + 1), (upd (upd f 6 (nI ((runN A i).1 - wantN A i))) 5 (nI ((runN A i).2 + 1)), M.2)), ⟨_, rfl, ?_, ?_, ?_⟩, fun k => ?_⟩
        · rw [up_n (by omega), up_n (by omega)]; exact f0
        · rw [up_s, es]
        · rw [up_n (by omega), up_s, es]
        · show f_X8_runs_17 (nI i) (f, M.2) _ = _
          unfold f_X8_runs_17 f_X8_runs_65
          rw [mw]
          simp (disch := omega) only [litI, gi_n, clN, c4, leN, bn_s, lett_d, nI_add, f6, ltN, up_n, f5, subN]
          rw [if_neg (by omega), if_neg (by omega), if_neg (by omega)]
    · right
      have e : i = A.1 5 := by omega
      subst e
      refine ⟨some (f, M.2), ok_s ⟨rfl, f0, f5, f6⟩, fun k => ?_⟩
      show f_X8_runs_17 (nI (A.1 5)) (f, M.2) _ = _
      unfold f_X8_runs_17
      simp (disch := omega) only [litI, gi_n, clN, c4]
      rw [if_pos (Int32.le_refl _)]
  · rw [up_n (by omega), up_n (by omega)]
  · rw [up_n (by omega), up_s]; rfl
  · rw [up_s]; rfl
def sumW (A : AT) : Nat → Nat
  | 0 => 0
  | i + 1 => sumW A i + wantN A i
theorem sumW_le {A : AT} {b : Nat} (oa : okA b A) : ∀ i, i ≤ A.1 5 → sumW A i ≤ 1782 * i
  | 0, _ => Nat.le_refl _
  | i + 1, h => by
    have := sumW_le oa i (by omega)
    have := wantN_le oa (show i < A.1 5 by omega)
    show sumW A i + wantN A i ≤ _
    omega
theorem s_all {A : AT} {T : Tw} {b : Nat} (rt : rT A T) (oa : okA b A) : f_X5_wantedByAll T = some (nI (sumW A (A.1 5))) := by
  have a5 := oa.2.2.2.2.2.1
  have c5 := rt.1 5 (by omega)
  unfold f_X5_wantedByAll
  rw [lett_d, lett_d]
  unfold l_X5_wantedByAll_4
  refine itr_st (fun i => (nI (sumW A i), nI i)) _ (A.1 5) ?_ ?_ FU 0 (by omega) (by rw [FU_d]; omega)
  · intro i k hi
    show f_X5_wantedByAll_4 (nI (sumW A i)) (nI i) T (fun x1 x3 => k (x1, x3)) = k (nI (sumW A i + wantN A i), nI (i + 1))
    unfold f_X5_wantedByAll_4
    rw [s_want rt oa hi]
    simp (disch := omega) only [litI, c5, leN, bn_s, lett_d, nI_add]
    rw [if_neg (by omega)]
  · intro k
    show f_X5_wantedByAll_4 (nI (sumW A (A.1 5))) (nI (A.1 5)) T (fun x1 x3 => k (x1, x3)) = _
    unfold f_X5_wantedByAll_4
    rw [c5, if_pos (Int32.le_refl _)]
theorem neg_sum (a b c : Int32) : (a - c) + b = (a + b) - c := by
  rw [Int32.sub_eq_add_neg, Int32.sub_eq_add_neg, Int32.add_assoc, Int32.add_comm (-c) b, ← Int32.add_assoc]
theorem m_all {A : AT} {M : Ms} {b : Nat} {K63 : Int32 → Option (Int32 × Ms)} (rm : rM A (M.2.2 0)) (oa : okA b A) : l_X8_run_39 M K63 FU (-(nI (A.1 0))) (nI 0) = K63 (nI (sumW A (A.1 5)) - nI (A.1 0)) := by
  have a5 := oa.2.2.2.2.2.1
  have c4 : (M.2.2 0) 4 = nI (A.1 5) := rm.2.1 5 (by omega)
  unfold l_X8_run_39
  have start : (-(nI (A.1 0)), nI 0) = (fun i => (nI (sumW A i) - nI (A.1 0), nI i)) 0 := by
    show (-(nI (A.1 0)), nI 0) = (0 - nI (A.1 0), nI 0)
    rw [Int32.zero_sub]
  rw [start]
  refine itr_st (fun i => (nI (sumW A i) - nI (A.1 0), nI i)) _ (A.1 5) ?_ ?_ FU 0 (by omega) (by rw [FU_d]; omega)
  · intro i k hi
    show f_X8_run_39 (nI (sumW A i) - nI (A.1 0)) (nI i) M (fun x1 x3 => k (x1, x3)) _ = k (nI (sumW A i + wantN A i) - nI (A.1 0), nI (i + 1))
    unfold f_X8_run_39
    rw [m_want rm oa hi]
    simp (disch := omega) only [litI, gi_n, clN, c4, leN, bn_s, lett_d]
    rw [if_neg (by omega), neg_sum, nI_add, nI_add]
  · intro k
    show f_X8_run_39 _ (nI (A.1 5)) M (fun x1 x3 => k (x1, x3)) _ = _
    unfold f_X8_run_39
    simp (disch := omega) only [litI, gi_n, clN, c4]
    rw [if_pos (Int32.le_refl _)]
/-- both look for the one that wants least among those left -/
theorem least_both {A : AT} {T : Tw} {M : Ms} {b : Nat} {d r x3 x4 : Int32} {K108 : Int32 → Option Int32} (rt : rT A T) (rm : rM A (M.2.2 0)) (oa : okA b A) : ∃ x, f_X5_leastWant d T = some x ∧ l_X8_ordered_31 r d x3 x4 M K108 FU (-1) (nI 0) = K108 x ∧ (x = -1 ∨ ∃ q, q < A.1 5 ∧ x = nI q) := by
  have a5 := oa.2.2.2.2.2.1
  have c5 := rt.1 5 (by omega)
  have c4 : (M.2.2 0) 4 = nI (A.1 5) := rm.2.1 5 (by omega)
  have neg1 : ∀ q, q < 100 → ¬ nI q = (-1 : Int32) := by
    intro q hq
    have key : ∀ q : Fin 100, ¬ nI q.val = (-1 : Int32) := by decide +kernel
    exact key ⟨q, hq⟩
  unfold f_X5_leastWant
  rw [lett_d, lett_d]
  unfold l_X5_leastWant_4 l_X8_ordered_31
  refine itr_two (fun i z w => ∃ x, z = (x, nI i) ∧ w = (x, nI i) ∧ (x = -1 ∨ ∃ q, q < i ∧ x = nI q)) (fun r s => ∃ x, r = some x ∧ s = K108 x ∧ (x = -1 ∨ ∃ q, q < A.1 5 ∧ x = nI q)) (A.1 5) ?_ FU 0 _ _ ⟨-1, rfl, rfl, Or.inl rfl⟩ (Nat.zero_le _) (by rw [FU_d]; omega)
  rintro i z w hi ⟨x, rfl, rfl, hx⟩
  by_cases hlt : i < A.1 5
  · left
    have sw := s_want rt oa hlt
    have mw := m_want rm oa hlt
    have hw := wantN_le oa hlt
    -- what both go on with
    have next : ∃ x', (x' = x ∨ x' = nI i) ∧ (∀ k : Int32 × Int32 → Option Int32, f_X5_leastWant_4 d x (nI i) T (fun x2 x3 => k (x2, x3)) = k (x', nI (i + 1))) ∧ (∀ k : Int32 × Int32 → Option Int32, f_X8_ordered_31 r d x3 x4 x (nI i) M (fun x5 x6 => k (x5, x6)) K108 = k (x', nI (i + 1))) := by
      have e7 : ∀ k : Int32 × Int32 → Option Int32, f_X5_leastWant_60 d x (nI i) T (fun x2 x3 => k (x2, x3)) = k (x, nI (i + 1)) := fun k => by
        unfold f_X5_leastWant_60; rw [lett_d, show nI i + 1 = nI (i + 1) from nI_add i 1]
      have e7' : ∀ k : Int32 × Int32 → Option Int32, f_X5_leastWant_58 d (nI i) T (fun x2 x3 => k (x2, x3)) = k (nI i, nI (i + 1)) := fun k => by
        unfold f_X5_leastWant_58 f_X5_leastWant_60; rw [lett_d, show nI i + 1 = nI (i + 1) from nI_add i 1]
      have e8 : ∀ k : Int32 × Int32 → Option Int32, f_X8_ordered_98 r d x3 x4 x (nI i) M (fun x5 x6 => k (x5, x6)) = k (x, nI (i + 1)) := fun k => by
        unfold f_X8_ordered_98 f_X8_ordered_100; rw [lett_d, show nI i + 1 = nI (i + 1) from nI_add i 1]
      have e8' : ∀ k : Int32 × Int32 → Option Int32, f_X8_ordered_93 r d x3 x4 (nI i) M (fun x5 x6 => k (x5, x6)) = k (nI i, nI (i + 1)) := fun k => by
        unfold f_X8_ordered_93 f_X8_ordered_100; rw [lett_d, show nI i + 1 = nI (i + 1) from nI_add i 1]
      unfold f_X5_leastWant_4 f_X8_ordered_31 f_X5_leastWant_32 f_X8_ordered_64 f_X5_leastWant_33 f_X8_ordered_65
      rw [s_bit d (by omega), shr_bit d (by omega), sw, mw]
      simp only [e7, e7', e8, e8', bn_s, if_true, if_neg i10]
      have hnl : ¬ (A.1 5) ≤ i := by omega
      have g1 : ¬ T.1 5 ≤ nI i := by rw [c5, leN (by omega) (by omega)]; exact hnl
      have g2 : ¬ (M.2.2 0) 4 ≤ nI i := by rw [c4, leN (by omega) (by omega)]; exact hnl
      simp (disch := omega) only [show (4 : Int32) = nI 4 from rfl, gi_n, clN, if_neg g1, if_neg g2]
      cases bitI d i
      · rw [if_neg (show ¬ (false = true) by decide)]
        simp only [if_true]
        by_cases h0 : nI (wantN A i) ≤ 0
        · simp only [if_pos h0]
          exact ⟨x, Or.inl rfl, fun _ => rfl, fun _ => rfl⟩
        · simp only [if_neg h0]
          rcases hx with hx | ⟨q, hq, hx⟩
          · simp only [if_pos hx]
            exact ⟨nI i, Or.inr rfl, fun _ => rfl, fun _ => rfl⟩
          · have hx1 : ¬ x = -1 := by rw [hx]; exact neg1 q (by omega)
            simp only [if_neg hx1]
            rw [hx, s_want rt oa (show q < A.1 5 by omega), m_want rm oa (show q < A.1 5 by omega)]
            simp only [bn_s]
            by_cases hc : nI (wantN A q) ≤ nI (wantN A i)
            · simp only [if_pos hc]
              exact ⟨nI q, Or.inl rfl, fun _ => rfl, fun _ => rfl⟩
            · simp only [if_neg hc]
              exact ⟨nI i, Or.inr rfl, fun _ => rfl, fun _ => rfl⟩
      · rw [if_pos rfl]
        simp only [if_neg i10]
        exact ⟨x, Or.inl rfl, fun _ => rfl, fun _ => rfl⟩
    obtain ⟨x', hx', n1, n2⟩ := next
    refine ⟨hlt, (x', nI (i + 1)), (x', nI (i + 1)), ⟨x', rfl, rfl, ?_⟩, n1, n2⟩
    rcases hx' with e | e
    · rw [e]
      rcases hx with hx | ⟨q, hq, hx⟩
      · exact Or.inl hx
      · exact Or.inr ⟨q, by omega, hx⟩
    · exact Or.inr ⟨i, by omega, e⟩
  · right
    have e : i = A.1 5 := by omega
    subst e
    refine ⟨some x, K108 x, ⟨x, rfl, rfl, hx⟩, fun k => ?_, fun k => ?_⟩
    · show f_X5_leastWant_4 d x (nI (A.1 5)) T _ = _
      unfold f_X5_leastWant_4
      rw [c5, if_pos (Int32.le_refl _)]
    · show f_X8_ordered_31 r d x3 x4 x (nI (A.1 5)) M _ _ = _
      unfold f_X8_ordered_31
      rw [show (4 : Int32) = nI 4 from rfl, gi_n (by omega) (by omega), clN (by omega), c4, if_pos (Int32.le_refl _)]
