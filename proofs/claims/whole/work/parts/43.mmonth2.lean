/-! PURE: the model's month, its loops. -/
theorem m_people {A : AT} {t : Nat → Int32} {b : Nat} {x : Int32} {dry : Nat → Bool} (h : rM A t) (hA : okA b A) (hb : b < 1000000) (hd : dryOf x dry) {P : Option (Int32 × (Nat → Int32)) → Prop} {K126 : (Nat → Int32) → Option (Int32 × (Nat → Int32))} (hK : ∀ t', rM (peopleN dry A) t' → P (K126 t')) : P (l_X8_month_2 x K126 FU (nI 0) t) := by
  unfold l_X8_month_2
  have a4 := hA.2.2.2.2.1
  refine itr_rel (fun i z => ∃ t', z = (nI i, t') ∧ rM (foldN (stP dry) i A) t') P (A.1 4) ?_ FU 0 _ ⟨t, rfl, h⟩ (Nat.zero_le _) (by rw [FU_d]; omega)
  rintro i z hi ⟨t', rfl, hT⟩
  have e4 : (foldN (stP dry) i A).1 4 = A.1 4 := foldN_1 (f := stP dry) (fun _ _ => rfl) i
  by_cases hlt : i < A.1 4
  · left
    obtain ⟨t2, h2, hk⟩ := m_person hT (okA_fold_stP hA i) hb hd (by rw [e4]; exact hlt) K126
    exact ⟨hlt, (nI (i + 1), t2), ⟨t2, rfl, h2⟩, fun k => hk _⟩
  · right
    have e : i = A.1 4 := by omega
    subst e
    refine ⟨K126 t', hK t' hT, fun k => ?_⟩
    unfold f_X8_month_2
    have c4 : t' 3 = nI ((foldN (stP dry) (A.1 4) A).1 4) := hT.2.1 4 (by omega)
    simp (disch := omega) only [litI, gi_n, clN, c4, e4, leN]
    rw [if_pos (Nat.le_refl _)]
theorem m_givesL {A : AT} {t : Nat → Int32} {b : Nat} (h : rM A t) (hA : okA b A) {P : Option (Int32 × (Nat → Int32)) → Prop} {K159 : (Nat → Int32) → Option (Int32 × (Nat → Int32))} (hK : ∀ t', rM (givesN A) t' → P (K159 t')) : P (l_X8_month_128 K159 FU (nI 0) t) := by
  unfold l_X8_month_128
  have a5 := hA.2.2.2.2.2.1
  refine itr_rel (fun i z => ∃ t', z = (nI i, t') ∧ rM (foldN giveN i A) t') P (A.1 5) ?_ FU 0 _ ⟨t, rfl, h⟩ (Nat.zero_le _) (by rw [FU_d]; omega)
  rintro i z hi ⟨t', rfl, hT⟩
  obtain ⟨okX, e5⟩ := okA_fold_give hA i hi
  have c5 : t' 4 = nI ((foldN giveN i A).1 5) := hT.2.1 5 (by omega)
  by_cases hlt : i < A.1 5
  · left
    have hl : i < (foldN giveN i A).1 5 := by rw [e5]; exact hlt
    have e6 : t' (26 + 5 * i + 3) = nI ((foldN giveN i A).2 6 i) := hT.2.2.2.1 3 (by omega) i hl
    obtain ⟨l1, l2, l3, l4, l5, l6, l7, l8⟩ := okX.2.2.2.2.2.2.2.2.1 i hl
    refine ⟨hlt, ?_⟩
    have start : ∀ k : Int32 → (Nat → Int32) → Option (Int32 × (Nat → Int32)), f_X8_month_128 (nI i) t' k K159 = (if (foldN giveN i A).2 6 i = 0 then bn (f_X8_gives (nI i) t') fun r150 => f_X8_month_153 (nI i) r150 k else f_X8_month_153 (nI i) t' k) := by
      intro k
      unfold f_X8_month_128
      simp (disch := omega) only [litI, pk_mul, nI_add, gi_n, clN, c5, e5, leN, e6, eqN]
      rw [if_neg (by omega)]
    by_cases hs : (foldN giveN i A).2 6 i = 0
    · obtain ⟨t2, h2, r2⟩ := m_gives hT okX hl hs
      refine ⟨(nI (i + 1), t2), ⟨t2, rfl, r2⟩, fun k => ?_⟩
      show f_X8_month_128 (nI i) t' _ K159 = _
      rw [start, if_pos hs, h2]
      simp only [bn_s, f_X8_month_153, lett_d, litI, nI_add]
    · refine ⟨(nI (i + 1), t'), ⟨t', rfl, ?_⟩, fun k => ?_⟩
      · show rM (giveN i (foldN giveN i A)) t'
        rw [giveN_no hs]
        exact hT
      · show f_X8_month_128 (nI i) t' _ K159 = _
        rw [start, if_neg hs]
        simp only [f_X8_month_153, lett_d, litI, nI_add]
  · right
    have e : i = A.1 5 := by omega
    subst e
    refine ⟨K159 t', hK t' hT, fun k => ?_⟩
    unfold f_X8_month_128
    simp (disch := omega) only [litI, gi_n, clN, c5, e5, leN]
    rw [if_pos (Nat.le_refl _)]
/-- is the l-th loan paid now -/
def paidN (l : Nat) (A : AT) : Nat := if A.2 6 l = 3 ∧ wholeN A l ≤ A.1 0 then 1 else 0
/-- how many of the first n are paid -/
def paidsN : Nat → AT → Nat
  | 0, _ => 0
  | n + 1, A => paidsN n A + paidN n (foldN payN n A)
theorem paidsN_le (A : AT) : ∀ n, paidsN n A ≤ n
  | 0 => Nat.le_refl _
  | n + 1 => by
    show paidsN n A + paidN n (foldN payN n A) ≤ n + 1
    have := paidsN_le A n
    unfold paidN
    split <;> omega
theorem m_paysL {A : AT} {t : Nat → Int32} {b : Nat} (h : rM A t) (hA : okA b A) (hb : b + 8 < 1000000) {P : Option (Int32 × (Nat → Int32)) → Prop} {K206 : Int32 → (Nat → Int32) → Option (Int32 × (Nat → Int32))} (hK : ∀ t', rM (paysN A) t' → P (K206 (nI (paidsN (A.1 5) A)) t')) : P (l_X8_month_163 K206 FU (nI 0) (nI 0) t) := by
  unfold l_X8_month_163
  have a5 := hA.2.2.2.2.2.1
  refine itr_rel (fun i z => ∃ t', z = (nI (paidsN i A), nI i, t') ∧ rM (foldN payN i A) t') P (A.1 5) ?_ FU 0 _ ⟨t, rfl, h⟩ (Nat.zero_le _) (by rw [FU_d]; omega)
  rintro i z hi ⟨t', rfl, hT⟩
  obtain ⟨okX, e5⟩ := okA_fold_pay hA i
  have hpl := paidsN_le A i
  have c5 : t' 4 = nI ((foldN payN i A).1 5) := hT.2.1 5 (by omega)
  by_cases hlt : i < A.1 5
  · left
    have hl : i < (foldN payN i A).1 5 := by rw [e5]; exact hlt
    have e6 : t' (26 + 5 * i + 3) = nI ((foldN payN i A).2 6 i) := hT.2.2.2.1 3 (by omega) i hl
    obtain ⟨l1, l2, l3, l4, l5, l6, l7, l8⟩ := okX.2.2.2.2.2.2.2.2.1 i hl
    refine ⟨hlt, ?_⟩
    have start : ∀ k : Int32 → Int32 → (Nat → Int32) → Option (Int32 × (Nat → Int32)), f_X8_month_163 (nI (paidsN i A)) (nI i) t' k K206 = (if (foldN payN i A).2 6 i = 3 then bn (f_X8_pays (nI i) t') fun r187 => if r187.1 = 0 then f_X8_month_197 (nI i) (nI (paidsN i A)) r187.2 k else f_X8_month_198 (nI i) (nI (paidsN i A)) (nI 1) r187.2 k else f_X8_month_197 (nI i) (nI (paidsN i A)) t' k) := by
      intro k
      unfold f_X8_month_163
      simp (disch := omega) only [litI, pk_mul, nI_add, gi_n, clN, c5, e5, leN, e6, eqN]
      rw [if_neg (by omega)]
    by_cases hs : (foldN payN i A).2 6 i = 3
    · obtain ⟨r, h2, hr1, r2⟩ := m_pays hT okX (by omega) hl hs
      refine ⟨(nI (paidsN (i + 1) A), nI (i + 1), r.2), ⟨r.2, rfl, r2⟩, fun k => ?_⟩
      show f_X8_month_163 (nI (paidsN i A)) (nI i) t' _ K206 = _
      rw [start, if_pos hs, h2]
      simp only [bn_s]
      have ep : paidsN (i + 1) A = paidsN i A + paidN i (foldN payN i A) := rfl
      by_cases hc : (foldN payN i A).1 0 < wholeN (foldN payN i A) i
      · rw [if_pos hc] at hr1
        have e0 : paidN i (foldN payN i A) = 0 := by unfold paidN; rw [if_neg (by omega)]
        rw [hr1, if_pos rfl, ep, e0]
        simp only [f_X8_month_197, f_X8_month_198, lett_d, litI, nI_add]
      · rw [if_neg hc] at hr1
        have e0 : paidN i (foldN payN i A) = 1 := by unfold paidN; rw [if_pos ⟨hs, by omega⟩]
        rw [hr1, if_neg (by decide), ep, e0]
        simp only [f_X8_month_198, lett_d, litI, nI_add]
    · refine ⟨(nI (paidsN (i + 1) A), nI (i + 1), t'), ⟨t', rfl, ?_⟩, fun k => ?_⟩
      · show rM (payN i (foldN payN i A)) t'
        rw [payN_no hs]
        exact hT
      · show f_X8_month_163 (nI (paidsN i A)) (nI i) t' _ K206 = _
        rw [start, if_neg hs]
        have ep : paidsN (i + 1) A = paidsN i A + paidN i (foldN payN i A) := rfl
        have e0 : paidN i (foldN payN i A) = 0 := by unfold paidN; rw [if_neg (fun q => hs q.1)]
        rw [ep, e0]
        simp only [f_X8_month_197, f_X8_month_198, lett_d, litI, nI_add]
  · right
    have e : i = A.1 5 := by omega
    subst e
    refine ⟨K206 _ t', hK t' hT, fun k => ?_⟩
    unfold f_X8_month_163
    simp (disch := omega) only [litI, gi_n, clN, c5, e5, leN]
    rw [if_pos (Nat.le_refl _)]
/-- A MONTH of the model: the town, and how many are paid in it -/
theorem m_month {A : AT} {t : Nat → Int32} {b : Nat} {x : Int32} {dry : Nat → Bool} (h : rM A t) (hA : okA b A) (hb : b + 8 < 1000000) (hd : dryOf x dry) : ok (fun r => r.1 = nI (paidsN (A.1 5) (givesN (peopleN dry A))) ∧ rM (monthN dry A) r.2) (f_X8_month x t) := by
  unfold f_X8_month
  refine ok_lett (fun x2 hx2 => ?_)
  rw [hx2, litI]
  refine m_people h hA (by omega) hd (fun t1 h1 => ?_)
  unfold f_X8_month_126
  refine ok_lett (fun x2 hx2 => ?_)
  rw [hx2, litI]
  refine m_givesL h1 (okA_people hA) (fun t2 h2 => ?_)
  unfold f_X8_month_159
  refine ok_lett (fun x2 hx2 => ?_)
  refine ok_lett (fun x3 hx3 => ?_)
  rw [hx2, hx3, litI]
  refine m_paysL h2 (okA_gives (okA_people hA)) hb (fun t3 h3 => ?_)
  unfold f_X8_month_206
  have e2 : (paysN (givesN (peopleN dry A))).1 2 = A.1 2 := by rw [paysN_1 (by omega) (by omega), givesN_1 (by omega), peopleN_1]
  have e5 : (givesN (peopleN dry A)).1 5 = A.1 5 := by rw [givesN_1 (by omega), peopleN_1]
  have c2 : t3 2 = nI (A.1 2) := by have := h3.2.1 2 (by omega); rw [e2] at this; exact this
  simp (disch := omega) only [litI, gi_n, clN, c2, nI_add]
  refine ok_lett (fun t4 h4 => ok_s ⟨?_, ?_⟩)
  · show nI (paidsN ((givesN (peopleN dry A)).1 5) _) = _
    rw [e5]
  · rw [h4]
    exact rM_setS (k := 2) h3 (by omega)
