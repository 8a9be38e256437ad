/-! PURE: which offers one can bear. -/
theorem gain_both {A : AT} {T : Tw} {M : Ms} {b : Nat} {s : Int32} (rt : rT A T) (rm : rM A (M.2.2 0)) (oa : okA b A) : ∃ g, f_X5_gainOfOffers s T = some g ∧ f_X8_gained s M = some g ∧ (s = 0 → g = 0) := by
  have a6 := oa.2.2.2.2.2.2.1
  have c6 := rt.1 6 (by omega)
  have c1 := rt.1 1 (by omega)
  have d5 : (M.2.2 0) 5 = nI (A.1 6) := rm.2.1 6 (by omega)
  have d1 : (M.2.2 0) 1 = nI (A.1 1) := rm.2.1 1 (by omega)
  unfold f_X5_gainOfOffers f_X8_gained
  rw [lett_d, lett_d, lett_d, lett_d]
  unfold l_X5_gainOfOffers_4 l_X8_gained_4
  refine itr_two (fun i z w => ∃ g, z = (g, nI i) ∧ w = (g, nI i) ∧ (s = 0 → g = 0)) (fun r q => ∃ g, r = some g ∧ q = some g ∧ (s = 0 → g = 0)) (A.1 6) ?_ FU 0 _ _ ⟨0, rfl, rfl, fun _ => rfl⟩ (Nat.zero_le _) (by rw [FU_d]; omega)
  rintro i z w hi ⟨g, rfl, rfl, hg⟩
  by_cases hlt : i < A.1 6
  · left
    have g1 : ¬ T.1 6 ≤ nI i := by rw [c6, leN (by omega) (by omega)]; omega
    have g2 : ¬ (M.2.2 0) 5 ≤ nI i := by rw [d5, leN (by omega) (by omega)]; omega
    have p8 := rt.2.2.2 8 (by omega) (by omega) i hlt
    have p9 := rt.2.2.2 9 (by omega) (by omega) i hlt
    have r8 : (M.2.2 0) (66 + 2 * i) = nI (A.2 8 i) := rm.2.2.2.2.1 0 (by omega) i hlt
    have r9 : (M.2.2 0) (66 + 2 * i + 1) = nI (A.2 9 i) := rm.2.2.2.2.1 1 (by omega) i hlt
    have e66 : (66 : Int32) + (2 : Int32) * nI i = nI (66 + 2 * i) := by simp only [litI, pk_mul, nI_add]
    have e67 : nI (66 + 2 * i) + (1 : Int32) = nI (66 + 2 * i + 1) := nI_add _ 1
    have gi1 : ∀ {β : Type} (k : Option β), gi (1 : Int32) 362 k = k := fun k => gi_n (j := 1) (by omega) (by omega)
    have cl1 : ((1 : Int32)).toNatClampNeg = 1 := clN (j := 1) (by omega)
    generalize hv : (nI (A.2 8 i) * nI (A.2 9 i) * nI (A.1 1)) / (100 : Int32) = v
    have b7 : ∀ k : Int32 × Int32 → Option Int32, f_X5_gainOfOffers_4 s g (nI i) T (fun x2 x3 => k (x2, x3)) = k (if bitI s i then g + v else g, nI (i + 1)) := by
      intro k
      unfold f_X5_gainOfOffers_4 f_X5_gainOfOffers_39 f_X5_gainOf
      rw [if_neg g1, s_bit s (by omega), bn_s, gi_n (by omega) (by omega), gi_n (by omega) (by omega), clN (by omega), p8, p9, c1, hv, bn_s]
      simp only [lett_d]
      rw [show nI i + 1 = nI (i + 1) from nI_add i 1]
      cases bitI s i
      · rw [if_neg (show ¬ (false = true) by decide), if_pos rfl, if_neg (show ¬ (false = true) by decide)]
      · rw [if_pos rfl, if_neg i10, if_pos rfl]
    have b8 : ∀ k : Int32 × Int32 → Option Int32, f_X8_gained_4 s g (nI i) M (fun x2 x3 => k (x2, x3)) = k (if bitI s i then g + v else g, nI (i + 1)) := by
      intro k
      unfold f_X8_gained_4
      rw [show (5 : Int32) = nI 5 from rfl, gi_n (j := 5) (by omega) (by omega), clN (j := 5) (by omega), if_neg g2, e66, e67, gi_n (by omega) (by omega), gi_n (by omega) (by omega), gi1, clN (by omega), clN (by omega), cl1, r8, r9, d1, hv, lett_d, shr_bit s (by omega), lett_d, show nI i + 1 = nI (i + 1) from nI_add i 1]
      cases bitI s i
      · rw [if_neg (show ¬ (false = true) by decide), if_neg (show ¬ (false = true) by decide), Int32.zero_mul, Int32.add_zero]
      · rw [if_pos rfl, if_pos rfl, Int32.one_mul]
    refine ⟨hlt, (if bitI s i then g + v else g, nI (i + 1)), (if bitI s i then g + v else g, nI (i + 1)), ⟨_, rfl, rfl, fun h0 => ?_⟩, b7, b8⟩
    rw [h0, bit_zero, if_neg (by decide)]
    exact hg h0
  · right
    have e : i = A.1 6 := by omega
    subst e
    refine ⟨some g, some g, ⟨g, rfl, rfl, hg⟩, fun k => ?_, fun k => ?_⟩
    · show f_X5_gainOfOffers_4 s g (nI (A.1 6)) T _ = _
      unfold f_X5_gainOfOffers_4
      rw [c6, if_pos (Int32.le_refl _)]
    · show f_X8_gained_4 s g (nI (A.1 6)) M _ = _
      unfold f_X8_gained_4
      rw [show (5 : Int32) = nI 5 from rfl, gi_n (by omega) (by omega), clN (by omega), d5, if_pos (Int32.le_refl _)]
/-- how many of the first i bits are set -/
def cntN (v : Nat) : Nat → Nat
  | 0 => 0
  | i + 1 => cntN v i + (if v.testBit i then 1 else 0)
theorem cnt_le {v i : Nat} (hi : i ≤ 8) : cntN v i ≤ onesN v := by
  have m : ∀ k, cntN v k ≤ cntN v (k + 1) := fun k => Nat.le_add_right _ _
  have e : cntN v 8 = onesN v := by
    unfold onesN
    simp only [cntN]
    omega
  rw [← e]
  have hi' : i = 0 ∨ i = 1 ∨ i = 2 ∨ i = 3 ∨ i = 4 ∨ i = 5 ∨ i = 6 ∨ i = 7 ∨ i = 8 := by omega
  have m0 : cntN v 0 ≤ cntN v 1 := m 0
  have m1 : cntN v 1 ≤ cntN v 2 := m 1
  have m2 : cntN v 2 ≤ cntN v 3 := m 2
  have m3 : cntN v 3 ≤ cntN v 4 := m 3
  have m4 : cntN v 4 ≤ cntN v 5 := m 4
  have m5 : cntN v 5 ≤ cntN v 6 := m 5
  have m6 : cntN v 6 ≤ cntN v 7 := m 6
  have m7 : cntN v 7 ≤ cntN v 8 := m 7
  rcases hi' with q | q | q | q | q | q | q | q | q <;> subst q <;> omega
theorem many_split {A : AT} {how n : Nat} : ∀ d, ((∀ l, n ≤ l → l < n + d → ¬ A.2 6 l = how) → manyN A how (n + d) = manyN A how n) ∧ (∀ l, n ≤ l → l < n + d → A.2 6 l = how → manyN A how n < manyN A how (n + d))
  | 0 => ⟨fun _ => rfl, fun l h1 h2 => by omega⟩
  | d + 1 => by
    obtain ⟨i1, i2⟩ := many_split (A := A) (how := how) (n := n) d
    have mono : manyN A how n ≤ manyN A how (n + d) := by
      have : ∀ d, manyN A how n ≤ manyN A how (n + d) := by
        intro d
        induction d with
        | zero => exact Nat.le_refl _
        | succ d ih => exact Nat.le_trans ih (Nat.le_add_right _ _)
      exact this d
    have es : manyN A how (n + (d + 1)) = manyN A how (n + d) + (if A.2 6 (n + d) = how then 1 else 0) := rfl
    rw [es]
    refine ⟨fun h => ?_, fun l h1 h2 h3 => ?_⟩
    · rw [if_neg (h (n + d) (by omega) (by omega)), i1 (fun l a c => h l a (by omega))]
      rfl
    · by_cases e : l = n + d
      · subst e; rw [if_pos h3]; omega
      · have := i2 l h1 (by omega) h3
        omega
section
variable {b : Nat} {M : Ms}
/-- the two last questions: no new hole, and no more holes than without -/
theorem bear_end {A : AT} {T O : Tw} {t : Nat → Int32} {n : Nat} {hs : Nat} (rt : rT A T) (rm : rM A t) (oa : okA b A) (hn : n ≤ A.1 5) (hO : O.1 5 = nI n) (h4 : (M.2.2 0) 4 = nI n) (hh : hs ≤ 8) : ∃ y, f_X1_canBear_82 (nI hs) T O = some (y, T) ∧ f_X8_bears_93 (nI hs) (t1N M t) = some (y, t1N M t) := by
  have a5 := oa.2.2.2.2.2.1
  have c5 := rt.1 5 (by omega)
  have t4 : t 4 = nI (A.1 5) := rm.2.1 5 (by omega)
  have mh := s_howMany rt oa (how := 2) (by omega)
  have m1 := m_many rm oa (how := 2) (by omega) hn
  have m2 := m_many rm oa (how := 2) (by omega) (Nat.le_refl _)
  have l1 := manyN_le A 2 n
  have l2 := manyN_le A 2 (A.1 5)
  obtain ⟨s1, s2⟩ := many_split (A := A) (how := 2) (n := n) (A.1 5 - n)
  rw [show n + (A.1 5 - n) = A.1 5 by omega] at s1 s2
  have e22 : (2 : Int32) = nI 2 := rfl
  have b93 : f_X8_bears_93 (nI hs) (t1N M t) = if hs < manyN A 2 n then some (0, t1N M t) else if manyN A 2 (A.1 5) = manyN A 2 n then some (1, t1N M t) else some (0, t1N M t) := by
    unfold f_X8_bears_93
    rw [show (4 : Int32) = nI 4 from rfl, gi_n (by omega) (by omega), clN (by omega), t1N_0, t1N_1, h4, t4, e22, m1, bn_s, gi_n (by omega) (by omega), m2, bn_s]
    have q1 : (nI hs < nI (manyN A 2 n)) = (hs < manyN A 2 n) := ltN (by omega) (by omega)
    have q2 : (nI (manyN A 2 (A.1 5)) = nI (manyN A 2 n)) = (manyN A 2 (A.1 5) = manyN A 2 n) := eqN (by omega) (by omega)
    by_cases c : hs < manyN A 2 n
    · rw [if_pos c, if_pos (q1.mpr c)]
    · rw [if_neg c, if_neg (fun x => c (q1.mp x))]
      by_cases d : manyN A 2 (A.1 5) = manyN A 2 n
      · rw [if_pos d, if_pos (q2.mpr d)]
      · rw [if_neg d, if_neg (fun x => d (q2.mp x))]
  have b122 : f_X1_canBear_122 (nI hs) T O = if hs < manyN A 2 (A.1 5) then some (0, T) else some (1, T) := by
    unfold f_X1_canBear_122
    rw [e22, mh, bn_s]
    have q1 : (nI hs < nI (manyN A 2 (A.1 5))) = (hs < manyN A 2 (A.1 5)) := ltN (by omega) (by omega)
    by_cases c : hs < manyN A 2 (A.1 5)
    · rw [if_pos c, if_pos (q1.mpr c)]
    · rw [if_neg c, if_neg (fun x => c (q1.mp x))]
  have b82 : (∃ l, n ≤ l ∧ l < A.1 5 ∧ A.2 6 l = 2 ∧ f_X1_canBear_82 (nI hs) T O = some (0, T)) ∨ ((∀ l, n ≤ l → l < A.1 5 → ¬ A.2 6 l = 2) ∧ f_X1_canBear_82 (nI hs) T O = f_X1_canBear_122 (nI hs) T O) := by
    unfold f_X1_canBear_82
    rw [hO]
    unfold l_X1_canBear_88
    refine itr_rel (fun i z => z = nI (n + i) ∧ ∀ l, n ≤ l → l < n + i → ¬ A.2 6 l = 2) (fun r => (∃ l, n ≤ l ∧ l < A.1 5 ∧ A.2 6 l = 2 ∧ r = some (0, T)) ∨ ((∀ l, n ≤ l → l < A.1 5 → ¬ A.2 6 l = 2) ∧ r = f_X1_canBear_122 (nI hs) T O)) (A.1 5 - n) ?_ FU 0 _ ⟨rfl, fun l a c => by omega⟩ (Nat.zero_le _) (by rw [FU_d]; omega)
    rintro i z hi ⟨rfl, hno⟩
    by_cases hlt : i < A.1 5 - n
    · have c6 := rt.2.2.1 6 (by omega) (by omega) (n + i) (by omega)
      have l6 := (oa.2.2.2.2.2.2.2.2.1 (n + i) (by omega)).2.2.2.2.2.1
      have q2 : (nI (A.2 6 (n + i)) = nI 2) = (A.2 6 (n + i) = 2) := eqN (by omega) (by omega)
      by_cases h2 : A.2 6 (n + i) = 2
      · right
        refine ⟨some (0, T), Or.inl ⟨n + i, by omega, by omega, h2, rfl⟩, fun k => ?_⟩
        show f_X1_canBear_88 (nI hs) (nI (n + i)) T O _ _ = _
        unfold f_X1_canBear_88
        rw [if_neg (by rw [c5, leN (by omega) (by omega)]; omega), gi_n (by omega) (by omega), clN (by omega), c6, e22, if_pos (q2.mpr h2)]
      · left
        refine ⟨hlt, nI (n + (i + 1)), ⟨rfl, fun l a c => ?_⟩, fun k => ?_⟩
        · by_cases e : l = n + i
          · subst e; exact h2
          · exact hno l a (by omega)
        · show f_X1_canBear_88 (nI hs) (nI (n + i)) T O _ _ = _
          unfold f_X1_canBear_88
          rw [if_neg (by rw [c5, leN (by omega) (by omega)]; omega), gi_n (by omega) (by omega), clN (by omega), c6, e22, if_neg (fun x => h2 (q2.mp x)), lett_d, show nI (n + i) + 1 = nI (n + i + 1) from nI_add (n + i) 1, Nat.add_assoc]
    · right
      have e : n + i = A.1 5 := by omega
      refine ⟨f_X1_canBear_122 (nI hs) T O, Or.inr ⟨fun l a c => hno l a (by omega), rfl⟩, fun k => ?_⟩
      show f_X1_canBear_88 (nI hs) (nI (n + i)) T O _ _ = _
      unfold f_X1_canBear_88
      rw [if_pos (by rw [c5, e]; exact Int32.le_refl _)]
  rw [b93]
  rcases b82 with ⟨l, h1, h2, h3, e⟩ | ⟨hno, e⟩
  · rw [e]
    have gt := s2 l h1 h2 h3
    refine ⟨0, rfl, ?_⟩
    by_cases c : hs < manyN A 2 n
    · rw [if_pos c]
    · rw [if_neg c, if_neg (by omega)]
  · rw [e, b122]
    have eq := s1 hno
    rw [eq]
    by_cases c : hs < manyN A 2 n
    · rw [if_pos c, if_pos c]; exact ⟨0, rfl, rfl⟩
    · rw [if_neg c, if_neg c, if_pos rfl]; exact ⟨1, rfl, rfl⟩
theorem bear_months {A : AT} {T O : Tw} {t : Nat → Int32} {n hs : Nat} (rt : rT A T) (rm : rM A t) (oa : okA b A) (hb : b < 100000) (hn : n ≤ A.1 5) (hO : O.1 5 = nI n) (h4 : (M.2.2 0) 4 = nI n) (hh : hs ≤ 8) : ∃ y R' t', f_X1_canBear_58 (nI hs) T O = some (y, R') ∧ f_X8_bears_68 (nI hs) (t1N M t) = some (y, t1N M t') := by
  unfold f_X1_canBear_58 f_X8_bears_68
  rw [lett_d, lett_d, show (0 : Int32) = nI 0 from rfl]
  unfold l_X1_canBear_61 l_X8_bears_71
  refine itr_two (fun i z w => ∃ N' t', z = (nI i, N') ∧ w = (nI i, t1N M t') ∧ rT (aheadN i A) N' ∧ rM (aheadN i A) t') (fun r s => ∃ y R' t', r = some (y, R') ∧ s = some (y, t1N M t')) 12 ?_ FU 0 _ _ ⟨T, t, rfl, rfl, rt, rm⟩ (Nat.zero_le _) (by rw [FU_d]; omega)
  rintro i z w hi ⟨N', t', rfl, rfl, rt', rm'⟩
  have oi := okA_ahead oa i
  by_cases hlt : i < 12
  · left
    obtain ⟨T2, l1, l2⟩ := s_liveMonth rt' oi (by omega) dry0_of
    obtain ⟨r2, m1, _, m3⟩ := m_month rm' oi (by omega) dry0_of
    refine ⟨hlt, (nI (i + 1), T2), (nI (i + 1), t1N M r2.2), ⟨T2, r2.2, rfl, rfl, l2, m3⟩, fun k => ?_, fun k => ?_⟩
    · show f_X1_canBear_61 (nI hs) (nI i) N' O _ _ = _
      unfold f_X1_canBear_61
      rw [if_neg (by rw [show (12 : Int32) = nI 12 from rfl, leN (by omega) (by omega)]; omega), l1, bn_s, lett_d, show nI i + 1 = nI (i + 1) from nI_add i 1]
    · show f_X8_bears_71 (nI hs) (nI i) (t1N M t') _ _ = _
      unfold f_X8_bears_71
      rw [if_neg (by rw [show (12 : Int32) = nI 12 from rfl, leN (by omega) (by omega)]; omega), t1N_1, m1, bn_s, lett_d, t1N_t, lett_d, show nI i + 1 = nI (i + 1) from nI_add i 1]
  · right
    have e : i = 12 := by omega
    subst e
    have hn' : n ≤ (aheadN 12 A).1 5 := by rw [aheadN_1 (by omega) (by omega) (by omega)]; exact hn
    obtain ⟨y, y1, y2⟩ := bear_end (M := M) rt' rm' oi hn' hO h4 hh
    refine ⟨some (y, N'), some (y, t1N M t'), ⟨y, N', t', rfl, rfl⟩, fun k => ?_, fun k => ?_⟩
    · show f_X1_canBear_61 (nI hs) (nI 12) N' O _ _ = _
      unfold f_X1_canBear_61
      rw [if_pos (show (12 : Int32) ≤ nI 12 from Int32.le_refl _)]
      exact y1
    · show f_X8_bears_71 (nI hs) (nI 12) (t1N M t') _ _ = _
      unfold f_X8_bears_71
      rw [if_pos (show (12 : Int32) ≤ nI 12 from Int32.le_refl _)]
      exact y2
theorem bear_both {A : AT} {T R : Tw} {t : Nat → Int32} {p v hs : Nat} (rt : rT A T) (rm : rM A (M.2.2 0)) (oa : okA b A) (hb : b < 100000) (hp : p < A.1 4) (hv : v < 256) (h8 : A.1 5 + onesN v ≤ 8) (hh : hs ≤ 8) : ∃ y R' t', f_X1_canBear (nI p) (nI v) (nI hs) R T = some (y, R') ∧ f_X8_bears (nI p) (nI v) (nI hs) (t1N M t) = some (y, t1N M t') := by
  have a4 := oa.2.2.2.2.1
  have a6 := oa.2.2.2.2.2.2.1
  have c6 := rt.1 6 (by omega)
  have d5 : (M.2.2 0) 5 = nI (A.1 6) := rm.2.1 6 (by omega)
  have h4 : (M.2.2 0) 4 = nI (A.1 5) := rm.2.1 5 (by omega)
  have rm1 : rM A ((t1N M t).2.2 0) := by rw [t1N_0]; exact rm
  obtain ⟨t0, et, rmt, _⟩ := m_tries rm1
  have tt : t1N (t1N M t) t0 = t1N M t0 := t1N_t
  obtain ⟨T0, e0, h0⟩ := s_copy R T
  have hd : A.1 4 ≤ 6 ∧ A.1 5 ≤ 8 ∧ A.1 6 ≤ 8 := ⟨oa.2.2.2.2.1, oa.2.2.2.2.2.1, oa.2.2.2.2.2.2.1⟩
  have r0 : rT (fixR A t0) T0 := rT_fix (rT_cp rt h0 hd)
  unfold f_X1_canBear f_X8_bears
  rw [e0, et, tt, bn_s, bn_s, lett_d, lett_d, show (0 : Int32) = nI 0 from rfl]
  unfold l_X1_canBear_11 l_X8_bears_7
  refine itr_two (fun i z w => ∃ N' t' A', z = (nI i, N') ∧ w = (nI i, t1N M t') ∧ rT A' N' ∧ rM A' t' ∧ okA b A' ∧ A'.1 5 = A.1 5 + cntN v i ∧ A'.1 4 = A.1 4) (fun r s => ∃ y R' t', r = some (y, R') ∧ s = some (y, t1N M t')) (A.1 6) ?_ FU 0 _ _ ⟨T0, t0, fixR A t0, rfl, rfl, r0, rmt, okA_fix oa, rfl, rfl⟩ (Nat.zero_le _) (by rw [FU_d]; omega)
  rintro i z w hi ⟨N', t', A', rfl, rfl, rt', rm', oa', e5, e4⟩
  by_cases hlt : i < A.1 6
  · left
    have g1 : ¬ T.1 6 ≤ nI i := by rw [c6, leN (by omega) (by omega)]; omega
    have g2 : ¬ (M.2.2 0) 5 ≤ nI i := by rw [d5, leN (by omega) (by omega)]; omega
    have p8 := rt.2.2.2 8 (by omega) (by omega) i hlt
    have p9 := rt.2.2.2 9 (by omega) (by omega) i hlt
    have r8 : (M.2.2 0) (66 + 2 * i) = nI (A.2 8 i) := rm.2.2.2.2.1 0 (by omega) i hlt
    have r9 : (M.2.2 0) (66 + 2 * i + 1) = nI (A.2 9 i) := rm.2.2.2.2.1 1 (by omega) i hlt
    have e66 : (66 : Int32) + (2 : Int32) * nI i = nI (66 + 2 * i) := by simp only [litI, pk_mul, nI_add]
    have e67 : nI (66 + 2 * i) + (1 : Int32) = nI (66 + 2 * i + 1) := nI_add _ 1
    have bt : bitI (nI v) i = v.testBit i := bit_nI (by omega)
    obtain ⟨x1, x2, x3, x4⟩ := oa.2.2.2.2.2.2.2.2.2 i hlt
    have b7 : ∀ k : Int32 × Tw → Option (Int32 × Tw), f_X1_canBear_11 (nI p) (nI v) (nI hs) (nI i) N' T (fun x5 N => k (x5, N)) (fun Nz => f_X1_canBear_58 (nI hs) Nz T) = if v.testBit i then (bn (f_X5_addLoan (nI p) (nI (A.2 8 i)) (nI (A.2 9 i)) N') fun r48 => k (nI (i + 1), r48.2)) else k (nI (i + 1), N') := by
      intro k
      unfold f_X1_canBear_11 f_X1_canBear_52
      rw [if_neg g1, s_bit (nI v) (by omega), bn_s, gi_n (by omega) (by omega), gi_n (by omega) (by omega), clN (by omega), p8, p9, bt]
      simp only [lett_d]
      rw [show nI i + 1 = nI (i + 1) from nI_add i 1]
      cases v.testBit i
      · rw [if_neg (show ¬ (false = true) by decide), if_pos rfl, if_neg (show ¬ (false = true) by decide)]
      · rw [if_pos rfl, if_neg i10, if_pos rfl]
    have b8 : ∀ k : Int32 × Ms → Option (Int32 × Ms), f_X8_bears_7 (nI p) (nI v) (nI hs) (nI i) (t1N M t') (fun x4 M => k (x4, M)) (fun Mz => f_X8_bears_68 (nI hs) Mz) = if v.testBit i then (bn (f_X8_addLoan (nI p) (nI (A.2 8 i)) (nI (A.2 9 i)) t') fun r59 => k (nI (i + 1), t1N M r59)) else k (nI (i + 1), t1N M t') := by
      intro k
      unfold f_X8_bears_7 f_X8_bears_62
      rw [show (5 : Int32) = nI 5 from rfl, gi_n (j := 5) (by omega) (by omega), clN (j := 5) (by omega), t1N_0, if_neg g2, e66, e67, gi_n (by omega) (by omega), gi_n (by omega) (by omega), clN (by omega), clN (by omega), r8, r9, t1N_1, shr_bit (nI v) (by omega), bt]
      simp only [lett_d, t1N_t]
      rw [show nI i + 1 = nI (i + 1) from nI_add i 1]
      cases v.testBit i
      · rw [if_neg (show ¬ (false = true) by decide), if_neg (show ¬ (0 : Int32) = 1 by decide), if_neg (show ¬ (false = true) by decide)]
      · rw [if_pos rfl, if_pos rfl, if_pos rfl]
    cases hbt : v.testBit i
    · rw [hbt] at b7 b8
      have ec : cntN v (i + 1) = cntN v i := by show cntN v i + (if v.testBit i then 1 else 0) = _; rw [hbt]; rfl
      exact ⟨hlt, (nI (i + 1), N'), (nI (i + 1), t1N M t'), ⟨N', t', A', rfl, rfl, rt', rm', oa', by rw [ec]; exact e5, e4⟩, b7, b8⟩
    · rw [hbt] at b7 b8
      simp only [if_true] at b7 b8
      have ec : cntN v (i + 1) = cntN v i + 1 := by show cntN v i + (if v.testBit i then 1 else 0) = _; rw [hbt]; rfl
      have hc := cnt_le (v := v) (i := i + 1) (by omega)
      have h58 : A'.1 5 < 8 := by omega
      obtain ⟨r, q1, _, q3⟩ := s_addLoan rt' h58 p (A.2 8 i) (A.2 9 i)
      obtain ⟨t2, q4, q5⟩ := m_addLoan rm' h58 p (A.2 8 i) (A.2 9 i)
      rw [q1] at b7
      rw [q4] at b8
      simp only [bn_s] at b7 b8
      refine ⟨hlt, (nI (i + 1), r.2), (nI (i + 1), t1N M t2), ⟨r.2, t2, addLN A' p (A.2 8 i) (A.2 9 i), rfl, rfl, q3, q5, okA_addLN oa' h58 (by omega) ⟨x1, x2⟩ ⟨x3, x4⟩, ?_, ?_⟩, b7, b8⟩
      · show A'.1 5 + 1 = _
        omega
      · exact e4
  · right
    have e : i = A.1 6 := by omega
    subst e
    obtain ⟨y, R', t2, y1, y2⟩ := bear_months (M := M) (O := T) (hs := hs) rt' rm' oa' hb (show A.1 5 ≤ A'.1 5 by omega) (rt.1 5 (by omega)) h4 hh
    refine ⟨some (y, R'), some (y, t1N M t2), ⟨y, R', t2, rfl, rfl⟩, fun k => ?_, fun k => ?_⟩
    · show f_X1_canBear_11 (nI p) (nI v) (nI hs) (nI (A.1 6)) N' T _ _ = _
      unfold f_X1_canBear_11
      rw [c6, if_pos (Int32.le_refl _)]
      exact y1
    · show f_X8_bears_7 (nI p) (nI v) (nI hs) (nI (A.1 6)) (t1N M t') _ _ = _
      unfold f_X8_bears_7
      rw [show (5 : Int32) = nI 5 from rfl, gi_n (j := 5) (by omega) (by omega), clN (j := 5) (by omega), t1N_0, d5, if_pos (Int32.le_refl _)]
      exact y2
end
section
variable {b : Nat} {B : Nat → Int32} {N : Tw} {P : Ps} {I1 : Int32} {T1 : Tw} {P1 : Ps} {I2 : Int32} {T2 : Tw} {P2 : Ps} {X : Tx} {K : Ch} {M : Ms}
theorem offers_both {A : AT} {R : Tw} {t : Nat → Int32} {p n hs : Nat} {x2 : Int32} {K134 : Int32 → Int32 → Ms → Option (Int32 × Ms)} (rt : rT A N) (rm : rM A (M.2.2 0)) (oa : okA b A) (hb : b < 100000) (hp : p < A.1 4) (hn : n = A.1 5) (hh : hs ≤ 8) : ∃ f g R' t', l_X1_bestOffers_30 (nI p) (nI (8 - n)) (nI hs) N FU (nI 0) (nI 0) (nI 1) R = some (f, R') ∧ l_X8_best_52 (nI p) x2 (nI hs) K134 FU (nI 0) (nI 0) (nI 1) (t1N M t) = K134 f g (t1N M t') ∧ f_X5_gainOfOffers f N = some g := by
  have a5 := oa.2.2.2.2.2.1
  have a6 := oa.2.2.2.2.2.2.1
  have c6 := rt.1 6 (by omega)
  have d5 : (M.2.2 0) 5 = nI (A.1 6) := rm.2.1 6 (by omega)
  have h4 : (M.2.2 0) 4 = nI (A.1 5) := rm.2.1 5 (by omega)
  obtain ⟨p1, p2⟩ := pow_le a6
  have pw := pow_n a6
  obtain ⟨g0, z1, _, z3⟩ := gain_both (s := 0) rt rm oa
  rw [z3 rfl] at z1
  unfold l_X1_bestOffers_30 l_X8_best_52
  refine itr_two (fun i z w => ∃ f g R' t', z = (f, g, nI (i + 1), R') ∧ w = (f, g, nI (i + 1), t1N M t') ∧ f_X5_gainOfOffers f N = some g) (fun r s => ∃ f g R' t', r = some (f, R') ∧ s = K134 f g (t1N M t') ∧ f_X5_gainOfOffers f N = some g) (2 ^ A.1 6 - 1) ?_ FU 0 _ _ ⟨nI 0, nI 0, R, t, rfl, rfl, z1⟩ (Nat.zero_le _) (by rw [FU_d]; omega)
  rintro i z w hi ⟨f, g, R', t', rfl, rfl, hg⟩
  by_cases hlt : i < 2 ^ A.1 6 - 1
  · have hv : i + 1 < 256 := by omega
    have g1 : ¬ (1 : Int32) <<< ((N.1 6) &&& 31) ≤ nI (i + 1) := by rw [c6, pw, leN (by omega) (by omega)]; omega
    have g2 : ¬ (1 : Int32) <<< (((M.2.2 0) 5) &&& 31) ≤ nI (i + 1) := by rw [d5, pw, leN (by omega) (by omega)]; omega
    have ho := onesN_le (i + 1)
    obtain ⟨u, u7, _, _⟩ := gain_both (s := nI (i + 1)) rt rm oa
    have u8 : ∀ t, f_X8_gained (nI (i + 1)) (t1N M t) = some u := by
      intro t
      obtain ⟨u', v7, v8, _⟩ := gain_both (s := nI (i + 1)) (M := t1N M t) rt (by rw [t1N_0]; exact rm) oa
      rw [u7] at v7
      rw [v8, Option.some.inj v7]
    have c8 : ((8 : Int32) < nI (onesN (i + 1)) + nI (A.1 5)) = (8 < onesN (i + 1) + A.1 5) := by rw [nI_add]; exact ltN (a := 8) (by omega) (by omega)
    have c7 : (nI (8 - n) < nI (onesN (i + 1))) = (8 - n < onesN (i + 1)) := ltN (by omega) (by omega)
    have skip7 : ∀ (R1 : Tw) (k : Int32 × Int32 × Int32 × Tw → Option (Int32 × Tw)), f_X1_bestOffers_86 (nI p) (nI (8 - n)) (nI hs) f g (nI (i + 1)) R1 N (fun x5 x6 x7 N => k (x5, x6, x7, N)) = k (f, g, nI (i + 1 + 1), R1) := by
      intro R1 k
      unfold f_X1_bestOffers_86
      rw [lett_d, show nI (i + 1) + 1 = nI (i + 1 + 1) from nI_add (i + 1) 1]
    have skip8 : ∀ (M1 : Ms) (k : Int32 × Int32 × Int32 × Ms → Option (Int32 × Ms)), f_X8_best_128 (nI p) x2 (nI hs) f g (nI (i + 1)) M1 (fun x4 x5 x6 M => k (x4, x5, x6, M)) = k (f, g, nI (i + 1 + 1), M1) := by
      intro M1 k
      unfold f_X8_best_128
      rw [lett_d, show nI (i + 1) + 1 = nI (i + 1 + 1) from nI_add (i + 1) 1]
    left
    by_cases cg : u ≤ g ∨ 8 < onesN (i + 1) + A.1 5
    · refine ⟨hlt, (f, g, nI (i + 1 + 1), R'), (f, g, nI (i + 1 + 1), t1N M t'), ⟨f, g, R', t', rfl, rfl, hg⟩, fun k => ?_, fun k => ?_⟩
      · show f_X1_bestOffers_30 (nI p) (nI (8 - n)) (nI hs) f g (nI (i + 1)) R' N _ = _
        unfold f_X1_bestOffers_30
        rw [if_neg g1, u7, bn_s, s_count hv, bn_s]
        by_cases cu : u ≤ g
        · rw [if_pos cu, skip7]
        · rw [if_neg cu, if_pos (c7.mpr (cg.elim (fun q => absurd q cu) (fun q => by omega))), skip7]
      · show f_X8_best_52 (nI p) x2 (nI hs) f g (nI (i + 1)) (t1N M t') _ _ = _
        unfold f_X8_best_52 f_X8_best_97 f_X8_best_98
        rw [show (5 : Int32) = nI 5 from rfl, gi_n (j := 5) (by omega) (by omega), clN (j := 5) (by omega), t1N_0, if_neg g2, m_ones hv, bn_s, show (4 : Int32) = nI 4 from rfl, gi_n (j := 4) (by omega) (by omega), clN (j := 4) (by omega), h4, u8, bn_s]
        by_cases c : 8 < onesN (i + 1) + A.1 5
        · rw [if_pos (c8.mpr c), if_pos rfl, skip8]
        · rw [if_neg (fun x => c (c8.mp x)), if_pos (cg.elim (fun q => q) (fun q => absurd q c)), if_pos rfl, skip8]
    · have cu : ¬ u ≤ g := fun x => cg (Or.inl x)
      have c : ¬ 8 < onesN (i + 1) + A.1 5 := fun x => cg (Or.inr x)
      obtain ⟨y, R2, t2, y1, y2⟩ := bear_both (M := M) (T := N) (R := R') (t := t') (p := p) (v := i + 1) (hs := hs) rt rm oa hb hp hv (by omega) hh
      have b7 : ∀ k : Int32 × Int32 × Int32 × Tw → Option (Int32 × Tw), f_X1_bestOffers_30 (nI p) (nI (8 - n)) (nI hs) f g (nI (i + 1)) R' N (fun x5 x6 x7 N => k (x5, x6, x7, N)) = if y = 0 then k (f, g, nI (i + 1 + 1), R2) else k (nI (i + 1), u, nI (i + 1 + 1), R2) := by
        intro k
        unfold f_X1_bestOffers_30
        rw [if_neg g1, u7, bn_s, s_count hv, bn_s, if_neg cu, if_neg (fun x => c (by have := c7.mp x; omega)), y1, bn_s, skip7]
        unfold f_X1_bestOffers_86
        rw [lett_d, show nI (i + 1) + 1 = nI (i + 1 + 1) from nI_add (i + 1) 1]
      have b8 : ∀ k : Int32 × Int32 × Int32 × Ms → Option (Int32 × Ms), f_X8_best_52 (nI p) x2 (nI hs) f g (nI (i + 1)) (t1N M t') (fun x4 x5 x6 M => k (x4, x5, x6, M)) K134 = if y = 0 then k (f, g, nI (i + 1 + 1), t1N M t2) else k (nI (i + 1), u, nI (i + 1 + 1), t1N M t2) := by
        intro k
        unfold f_X8_best_52 f_X8_best_98
        rw [show (5 : Int32) = nI 5 from rfl, gi_n (j := 5) (by omega) (by omega), clN (j := 5) (by omega), t1N_0, if_neg g2, m_ones hv, bn_s, show (4 : Int32) = nI 4 from rfl, gi_n (j := 4) (by omega) (by omega), clN (j := 4) (by omega), h4, u8, bn_s, if_neg (fun x => c (c8.mp x)), if_neg cu, if_neg i10, y2, bn_s, skip8, u8, bn_s]
        unfold f_X8_best_128
        rw [lett_d, show nI (i + 1) + 1 = nI (i + 1 + 1) from nI_add (i + 1) 1]
      by_cases cy : y = 0
      · exact ⟨hlt, (f, g, nI (i + 1 + 1), R2), (f, g, nI (i + 1 + 1), t1N M t2), ⟨f, g, R2, t2, rfl, rfl, hg⟩, fun k => (b7 k).trans (if_pos cy), fun k => (b8 k).trans (if_pos cy)⟩
      · exact ⟨hlt, (nI (i + 1), u, nI (i + 1 + 1), R2), (nI (i + 1), u, nI (i + 1 + 1), t1N M t2), ⟨nI (i + 1), u, R2, t2, rfl, rfl, u7⟩, fun k => (b7 k).trans (if_neg cy), fun k => (b8 k).trans (if_neg cy)⟩
  · right
    have e : i + 1 = 2 ^ A.1 6 := by omega
    refine ⟨some (f, R'), K134 f g (t1N M t'), ⟨f, g, R', t', rfl, rfl, hg⟩, fun k => ?_, fun k => ?_⟩
    · show f_X1_bestOffers_30 (nI p) (nI (8 - n)) (nI hs) f g (nI (i + 1)) R' N _ = _
      unfold f_X1_bestOffers_30
      rw [if_pos (by rw [c6, pw, e]; exact Int32.le_refl _)]
    · show f_X8_best_52 (nI p) x2 (nI hs) f g (nI (i + 1)) (t1N M t') _ _ = _
      unfold f_X8_best_52
      rw [show (5 : Int32) = nI 5 from rfl, gi_n (j := 5) (by omega) (by omega), clN (j := 5) (by omega), t1N_0, if_pos (by rw [d5, pw, e]; exact Int32.le_refl _)]
theorem q_best (h : SR b B N P I1 T1 P1 I2 T2 P2 X K M) (hb : b < 100000) (R : Tw) (x y : Int32) : ∃ r B' R' M', f_X7_best x y B N R = some (r, B', R') ∧ f_X8_best x y M = some (r, M') ∧ SR (b + 96) B' N P I1 T1 P1 I2 T2 P2 X K M' := by
  obtain ⟨A, H, rt, rm, oa, rp, rmp, op⟩ := h.2.1
  unfold f_X7_best f_X8_best f_X7_best_20 f_X8_best_17
  rcases person_cases rt rm oa x with ⟨p, hp, e, e8, e7⟩ | ⟨e8, e7⟩
  · rw [e7, e8]
    rcases in_cases y 0 1 (by omega) (by omega) with ⟨j, _, hj, f, f8, f7⟩ | ⟨f8, f7⟩
    · rw [show f_X7_within y 0 1 = some 1 from f7, show f_X8_in y 0 1 = some 1 from f8]
      subst e
      simp only [bn_s, if_neg i10]
      obtain ⟨A', R', t, g1, g2, rt', rm', oa', sA⟩ := ahead_both (R := R) rt rm oa hb (show 12 ≤ 60 by omega)
      have o12 := okA_ahead oa' 12
      have a5 := oa.2.2.2.2.2.1
      have c5 := rt.1 5 (by omega)
      have h4 : (M.2.2 0) 4 = nI (A.1 5) := rm.2.1 5 (by omega)
      have e5 : (aheadN 12 A').1 5 = A.1 5 := by rw [aheadN_1 (by omega) (by omega) (by omega), sA.1]
      have mh := s_howMany rt' o12 (how := 2) (by omega)
      have mm := m_many rm' o12 (how := 2) (by omega) (Nat.le_refl _)
      rw [e5] at mh mm
      have hs := manyN_le (aheadN 12 A') 2 (A.1 5)
      unfold f_X1_bestOffers
      rw [lett_d, c5, show (8 : Int32) - nI (A.1 5) = nI (8 - A.1 5) from subN a5, show (12 : Int32) = nI 12 from rfl, g1, g2, bn_s, bn_s, show (2 : Int32) = nI 2 from rfl, mh, bn_s, show (4 : Int32) = nI 4 from rfl, gi_n (j := 4) (by omega) (by omega), clN (j := 4) (by omega), t1N_0, t1N_1, h4, mm, bn_s, lett_d, lett_d, lett_d, lett_d, lett_d, lett_d]
      obtain ⟨f0, g0, R2, t2, o1, o2, o3⟩ := offers_both (N := N) (M := M) (R := R') (t := t) (p := p) (n := A.1 5) (hs := manyN (aheadN 12 A') 2 (A.1 5)) (x2 := y) (K134 := fun x4 x5 Mz => f_X8_best_134 y x4 x5 Mz) rt rm oa hb hp rfl (by omega)
      rw [show (0 : Int32) = nI 0 from rfl, show (1 : Int32) = nI 1 from rfl, o1, o2, bn_s, o3, bn_s]
      unfold f_X8_best_134
      by_cases q : y = 0
      · rw [if_pos q, if_pos (show y = nI 0 from q)]; exact ⟨_, _, _, _, rfl, rfl, SR_t1 h t2⟩
      · rw [if_neg q, if_neg (show ¬ y = nI 0 from q)]; exact ⟨_, _, _, _, rfl, rfl, SR_t1 h t2⟩
    · rw [show f_X7_within y 0 1 = some 0 from f7, show f_X8_in y 0 1 = some 0 from f8]
      simp only [bn_s, if_true, if_neg i10, bad7, bad8]
      exact ⟨_, _, _, _, rfl, rfl, SR_bad h⟩
  · rw [e7, e8]
    simp only [bn_s, if_true, bad7, bad8]
    exact ⟨_, _, _, _, rfl, rfl, SR_bad h⟩
end
