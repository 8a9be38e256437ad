/-! PURE: questions that both sides ask alike. -/
theorem nI_range {x : Int32} {lo hi : Nat} (hh : hi < 2147483648) (h1 : ¬ x < nI lo) (h2 : ¬ nI hi < x) (hlo : lo < 2147483648) : ∃ j, lo ≤ j ∧ j ≤ hi ∧ x = nI j := by
  have a : (nI lo).toInt = (lo : Int) := nI_toInt (by omega)
  have c : (nI hi).toInt = (hi : Int) := nI_toInt (by omega)
  have h1' : ¬ x.toInt < (nI lo).toInt := fun h => h1 (Int32.lt_iff_toInt_lt.mpr h)
  have h2' : ¬ (nI hi).toInt < x.toInt := fun h => h2 (Int32.lt_iff_toInt_lt.mpr h)
  rw [a] at h1'
  rw [c] at h2'
  refine ⟨x.toInt.toNat, by omega, by omega, ?_⟩
  apply Int32.toInt_inj.mp
  rw [nI_toInt (by omega)]
  omega
/-- a number as told, or not: both answer alike -/
theorem in_cases (x : Int32) (lo hi : Nat) (hh : hi < 2147483648) (hlo : lo < 2147483648) : (∃ j, lo ≤ j ∧ j ≤ hi ∧ x = nI j ∧ f_X8_in x (nI lo) (nI hi) = some 1 ∧ f_X7_within x (nI lo) (nI hi) = some 1) ∨ (f_X8_in x (nI lo) (nI hi) = some 0 ∧ f_X7_within x (nI lo) (nI hi) = some 0) := by
  unfold f_X8_in f_X7_within
  by_cases h1 : x < nI lo
  · right; rw [if_pos h1]; exact ⟨rfl, rfl⟩
  · by_cases h2 : nI hi < x
    · right; rw [if_neg h1, if_pos h2]; exact ⟨rfl, rfl⟩
    · left
      obtain ⟨j, a, c, e⟩ := nI_range hh h1 h2 hlo
      refine ⟨j, a, c, e, ?_, ?_⟩
      · rw [if_neg h1, if_neg h2]
      · rw [if_neg h1, if_neg h2]
/-- 0 .. n - 1, where n may be 0 -/
theorem below_cases (x : Int32) (n : Nat) (hn : n < 1000000) : (∃ j, j < n ∧ x = nI j ∧ f_X8_in x (nI 0) (nI n - nI 1) = some 1 ∧ ¬ x < nI 0 ∧ ¬ nI n ≤ x) ∨ (f_X8_in x (nI 0) (nI n - nI 1) = some 0 ∧ (x < nI 0 ∨ nI n ≤ x)) := by
  unfold f_X8_in
  by_cases h1 : x < nI 0
  · right; rw [if_pos h1]; exact ⟨rfl, Or.inl h1⟩
  · rw [if_neg h1]
    have ht : (nI n - nI 1).toInt = (n : Int) - 1 := pk_sub_toInt (by omega) (by omega)
    have hx0 : (0 : Int) ≤ x.toInt := by
      have := Int32.not_lt.mp h1
      have h3 := Int32.le_iff_toInt_le.mp this
      rw [nI_toInt (by omega)] at h3
      exact h3
    by_cases h2 : nI n - nI 1 < x
    · right
      rw [if_pos h2]
      refine ⟨rfl, Or.inr ?_⟩
      have h3 := Int32.lt_iff_toInt_lt.mp h2
      rw [ht] at h3
      apply Int32.le_iff_toInt_le.mpr
      rw [nI_toInt (by omega)]
      omega
    · left
      rw [if_neg h2]
      have h3 : ¬ (n : Int) - 1 < x.toInt := fun h => h2 (Int32.lt_iff_toInt_lt.mpr (by rw [ht]; exact h))
      refine ⟨x.toInt.toNat, by omega, ?_, rfl, h1, ?_⟩
      · apply Int32.toInt_inj.mp
        rw [nI_toInt (by omega)]
        omega
      · intro h
        have := Int32.le_iff_toInt_le.mp h
        rw [nI_toInt (by omega)] at this
        omega
theorem person_cases {b : Nat} {A : AT} {T : Tw} {M : Ms} (hT : rT A T) (hM : rM A (M.2.2 0)) (hA : okA b A) (x : Int32) : (∃ j, j < A.1 4 ∧ x = nI j ∧ f_X8_isPerson x M = some 1 ∧ f_X5_hasPerson x T = some 1) ∨ (f_X8_isPerson x M = some 0 ∧ f_X5_hasPerson x T = some 0) := by
  have a4 := hA.2.2.2.2.1
  have c4 : (M.2.2 0) 3 = nI (A.1 4) := hM.2.1 4 (by omega)
  have d4 := hT.1 4 (by omega)
  unfold f_X8_isPerson f_X5_hasPerson
  simp (disch := omega) only [litI, gi_n, clN, c4, d4]
  rcases below_cases x (A.1 4) (by omega) with ⟨j, hj, e, e1, h1, h2⟩ | ⟨e1, h⟩
  · left
    exact ⟨j, hj, e, by rw [e1]; rfl, by rw [if_neg h1, if_neg h2]⟩
  · right
    refine ⟨by rw [e1]; rfl, ?_⟩
    rcases h with h | h
    · rw [if_pos h]
    · by_cases h0 : x < nI 0
      · rw [if_pos h0]
      · rw [if_neg h0, if_pos h]
theorem loan_cases {b : Nat} {A : AT} {T : Tw} {M : Ms} (hT : rT A T) (hM : rM A (M.2.2 0)) (hA : okA b A) (x : Int32) : (∃ j, j < A.1 5 ∧ x = nI j ∧ f_X8_isLoan x M = some 1 ∧ f_X5_hasLoan x T = some 1) ∨ (f_X8_isLoan x M = some 0 ∧ f_X5_hasLoan x T = some 0) := by
  have a5 := hA.2.2.2.2.2.1
  have c5 : (M.2.2 0) 4 = nI (A.1 5) := hM.2.1 5 (by omega)
  have d5 := hT.1 5 (by omega)
  unfold f_X8_isLoan f_X5_hasLoan
  simp (disch := omega) only [litI, gi_n, clN, c5, d5]
  rcases below_cases x (A.1 5) (by omega) with ⟨j, hj, e, e1, h1, h2⟩ | ⟨e1, h⟩
  · left
    exact ⟨j, hj, e, by rw [e1]; rfl, by rw [if_neg h1, if_neg h2]⟩
  · right
    refine ⟨by rw [e1]; rfl, ?_⟩
    rcases h with h | h
    · rw [if_pos h]
    · by_cases h0 : x < nI 0
      · rw [if_pos h0]
      · rw [if_neg h0, if_pos h]
