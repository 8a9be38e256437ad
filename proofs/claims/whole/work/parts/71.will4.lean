/-! PURE: wills, asked. -/
theorem m_heirs {A : AT} {b v : Nat} {x1 x3 : Int32} {M : Ms} {K106 : Int32 → Ms → Option (Int32 × Ms)} {Q : Option (Int32 × Ms) → Prop} (rm : rM A (M.2.2 0)) (oa : okA b A) (hK : ∀ M', fr M M' → (∀ j, j < cntQ v.testBit (A.1 4) → M'.2.2 7 j = nI (arrQ v.testBit (A.1 4) j)) → Q (K106 (nI (cntQ v.testBit (A.1 4))) M')) : Q (l_X8_will_67 x1 (nI v) x3 K106 FU (nI 0) (nI 0) M) := by
  have a4 := oa.2.2.2.2.1
  have d3 : (M.2.2 0) 3 = nI (A.1 4) := rm.2.1 4 (by omega)
  unfold l_X8_will_67
  refine itr_rel (fun i z => ∃ M', z = (nI (cntQ v.testBit i), nI i, M') ∧ fr M M' ∧ ∀ j, j < cntQ v.testBit i → M'.2.2 7 j = nI (arrQ v.testBit i j)) Q (A.1 4) ?_ FU 0 _ ⟨M, rfl, ⟨rfl, rfl, fun _ _ => rfl⟩, fun j hj => absurd hj (Nat.not_lt_zero _)⟩ (Nat.zero_le _) (by rw [FU_d]; omega)
  rintro i z hi ⟨M', rfl, hf, h2⟩
  have e0 : (M'.2.2 0) 3 = nI (A.1 4) := by rw [hf.2.2 0 (by omega)]; exact d3
  by_cases hlt : i < A.1 4
  · left
    have cl := cntQ_le v.testBit i
    have body : ∀ kk : Int32 × Int32 × Ms → Option (Int32 × Ms), f_X8_will_67 x1 (nI v) x3 (nI (cntQ v.testBit i)) (nI i) M' (fun x4 x5 M => kk (x4, x5, M)) K106 = if v.testBit i then kk (nI (cntQ v.testBit i + 1), nI (i + 1), (M'.1, M'.2.1, va_up M'.2.2 7 (upd (M'.2.2 7) (cntQ v.testBit i) (nI i)))) else kk (nI (cntQ v.testBit i), nI (i + 1), M') := by
      intro kk
      unfold f_X8_will_67 f_X8_will_100
      rw [show (3 : Int32) = nI 3 from rfl, gi_n (by omega) (by omega), clN (j := 3) (by omega), e0, if_neg (by rw [leN (by omega) (by omega)]; omega), shr_bit (nI v) (by omega), bit_nI (by omega), gi_n (by omega) (by omega), clN (by omega)]
      simp only [lett_d]
      rw [show nI i + 1 = nI (i + 1) from nI_add i 1, show nI (cntQ v.testBit i) + 1 = nI (cntQ v.testBit i + 1) from nI_add _ 1]
      cases v.testBit i
      · rw [if_neg (show ¬ (false = true) by decide), if_neg (show ¬ (0 : Int32) = 1 by decide), if_neg (show ¬ (false = true) by decide)]
      · rw [if_pos rfl, if_pos rfl, if_pos rfl]
    cases hq : v.testBit i
    · rw [hq] at body
      refine ⟨hlt, (nI (cntQ v.testBit i), nI (i + 1), M'), ⟨M', by rw [(cntQ_f hq).1], hf, ?_⟩, body⟩
      rw [(cntQ_f hq).1, (cntQ_f hq).2]; exact h2
    · rw [hq] at body
      refine ⟨hlt, (nI (cntQ v.testBit i + 1), nI (i + 1), (M'.1, M'.2.1, va_up M'.2.2 7 (upd (M'.2.2 7) (cntQ v.testBit i) (nI i)))), ⟨_, by rw [(cntQ_t hq).1], fr_up hf (by omega), fun j hj => ?_⟩, body⟩
      rw [(cntQ_t hq).1] at hj
      rw [(cntQ_t hq).2, row_s]
      show _ = nI (if j = cntQ v.testBit i then i else arrQ v.testBit i j)
      by_cases e : j = cntQ v.testBit i
      · rw [if_pos e, e, up_s]
      · rw [if_neg e, up_n e]; exact h2 j (by omega)
  · right
    have e : i = A.1 4 := by omega
    subst e
    refine ⟨K106 (nI (cntQ v.testBit (A.1 4))) M', hK M' hf h2, fun kk => ?_⟩
    show f_X8_will_67 x1 (nI v) x3 (nI (cntQ v.testBit (A.1 4))) (nI (A.1 4)) M' _ _ = _
    unfold f_X8_will_67
    rw [show (3 : Int32) = nI 3 from rfl, gi_n (by omega) (by omega), clN (j := 3) (by omega), e0, if_pos (Int32.le_refl _)]
theorem m_parts {A : AT} {b p : Nat} {x3 x4 : Int32} {M0 M : Ms} {K190 : Int32 → Ms → Option (Int32 × Ms)} {Q : Option (Int32 × Ms) → Prop} (rm : rM A (M0.2.2 0)) (oa : okA b A) (hp : p < A.1 4) (hf0 : fr M0 M) (hK : ∀ M', fr M0 M' → M'.2.2 7 = M.2.2 7 → (∀ j, j < cntQ (leavesB A p) (A.1 5) → M'.2.2 9 j = nI (arrQ (leavesB A p) (A.1 5) j)) → Q (K190 (nI (cntQ (leavesB A p) (A.1 5))) M')) : Q (l_X8_will_112 (nI p) x3 x4 K190 FU (nI 0) (nI 0) M) := by
  have a4 := oa.2.2.2.2.1
  have a5 := oa.2.2.2.2.2.1
  have d4 : (M0.2.2 0) 4 = nI (A.1 5) := rm.2.1 5 (by omega)
  unfold l_X8_will_112
  refine itr_rel (fun i z => ∃ M', z = (nI (cntQ (leavesB A p) i), nI i, M') ∧ fr M0 M' ∧ M'.2.2 7 = M.2.2 7 ∧ ∀ j, j < cntQ (leavesB A p) i → M'.2.2 9 j = nI (arrQ (leavesB A p) i j)) Q (A.1 5) ?_ FU 0 _ ⟨M, rfl, hf0, rfl, fun j hj => absurd hj (Nat.not_lt_zero _)⟩ (Nat.zero_le _) (by rw [FU_d]; omega)
  rintro i z hi ⟨M', rfl, hf, h7, h2⟩
  have r0 : M'.2.2 0 = M0.2.2 0 := hf.2.2 0 (by omega)
  by_cases hlt : i < A.1 5
  · left
    have cl := cntQ_le (leavesB A p) i
    obtain ⟨l1, l2, l3, l4, l5, l6, l7, l8⟩ := oa.2.2.2.2.2.2.2.2.1 i hlt
    have c3 : (M0.2.2 0) (26 + 5 * i) = nI (A.2 3 i) := rm.2.2.2.1 0 (by omega) i hlt
    have c6 : (M0.2.2 0) (26 + 5 * i + 3) = nI (A.2 6 i) := rm.2.2.2.1 3 (by omega) i hlt
    have e5 : (26 : Int32) + (5 : Int32) * nI i = nI (26 + 5 * i) := by simp only [litI, pk_mul, nI_add]
    have e8 : nI (26 + 5 * i) + (3 : Int32) = nI (26 + 5 * i + 3) := nI_add _ 3
    have body : ∀ kk : Int32 × Int32 × Ms → Option (Int32 × Ms), f_X8_will_112 (nI p) x3 x4 (nI (cntQ (leavesB A p) i)) (nI i) M' (fun x5 x6 M => kk (x5, x6, M)) K190 = if leavesB A p i then kk (nI (cntQ (leavesB A p) i + 1), nI (i + 1), (M'.1, M'.2.1, va_up M'.2.2 9 (upd (M'.2.2 9) (cntQ (leavesB A p) i) (nI i)))) else kk (nI (cntQ (leavesB A p) i), nI (i + 1), M') := by
      intro kk
      have yes : f_X8_will_172 (nI p) x3 x4 (nI (cntQ (leavesB A p) i)) (nI i) M' (fun x5 x6 M => kk (x5, x6, M)) = kk (nI (cntQ (leavesB A p) i + 1), nI (i + 1), (M'.1, M'.2.1, va_up M'.2.2 9 (upd (M'.2.2 9) (cntQ (leavesB A p) i) (nI i)))) := by
        unfold f_X8_will_172 f_X8_will_184
        rw [gi_n (by omega) (by omega), clN (by omega), lett_d, lett_d, lett_d, show nI i + 1 = nI (i + 1) from nI_add i 1, show nI (cntQ (leavesB A p) i) + 1 = nI (cntQ (leavesB A p) i + 1) from nI_add _ 1]
      have nope : f_X8_will_184 (nI p) x3 x4 (nI (cntQ (leavesB A p) i)) (nI i) M' (fun x5 x6 M => kk (x5, x6, M)) = kk (nI (cntQ (leavesB A p) i), nI (i + 1), M') := by
        unfold f_X8_will_184
        rw [lett_d, show nI i + 1 = nI (i + 1) from nI_add i 1]
      unfold f_X8_will_112
      rw [show (4 : Int32) = nI 4 from rfl, gi_n (by omega) (by omega), clN (j := 4) (by omega), r0, d4, if_neg (by rw [leN (by omega) (by omega)]; omega), e5, e8, gi_n (by omega) (by omega), lett_d, gi_n (by omega) (by omega), clN (by omega), clN (by omega), c3, c6, yes, nope]
      have z0 : (nI (A.2 6 i) = 0) = (A.2 6 i = 0) := eqN (b := 0) (by omega) (by omega)
      have z2 : (nI (A.2 6 i) = 2) = (A.2 6 i = 2) := eqN (b := 2) (by omega) (by omega)
      have z3 : (nI (A.2 6 i) = 3) = (A.2 6 i = 3) := eqN (b := 3) (by omega) (by omega)
      have zp : (nI (A.2 3 i) = nI p) = (A.2 3 i = p) := eqN (by omega) (by omega)
      by_cases o : A.2 3 i = p
      · rw [if_pos (zp.mpr o)]
        by_cases s0 : A.2 6 i = 0
        · have hl : leavesB A p i = true := by unfold leavesB; simp [s0, o]
          rw [if_pos (z0.mpr s0), hl, if_pos rfl]
        · rw [if_neg (fun x => s0 (z0.mp x))]
          by_cases s2 : A.2 6 i = 2
          · have hl : leavesB A p i = true := by unfold leavesB; simp [s2, o]
            rw [if_pos (z2.mpr s2), hl, if_pos rfl]
          · rw [if_neg (fun x => s2 (z2.mp x))]
            by_cases s3 : A.2 6 i = 3
            · have hl : leavesB A p i = true := by unfold leavesB; simp [s3, o]
              rw [if_pos (z3.mpr s3), hl, if_pos rfl]
            · have hl : leavesB A p i = false := by unfold leavesB; simp [s0, s2, s3]
              rw [if_neg (fun x => s3 (z3.mp x)), hl, if_neg (show ¬ (false = true) by decide)]
      · have hl : leavesB A p i = false := by unfold leavesB; simp [o]
        rw [if_neg (fun x => o (zp.mp x)), hl, if_neg (show ¬ (false = true) by decide)]
    cases hq : leavesB A p i
    · rw [hq] at body
      refine ⟨hlt, (nI (cntQ (leavesB A p) i), nI (i + 1), M'), ⟨M', by rw [(cntQ_f hq).1], hf, h7, ?_⟩, body⟩
      rw [(cntQ_f hq).1, (cntQ_f hq).2]; exact h2
    · rw [hq] at body
      refine ⟨hlt, (nI (cntQ (leavesB A p) i + 1), nI (i + 1), (M'.1, M'.2.1, va_up M'.2.2 9 (upd (M'.2.2 9) (cntQ (leavesB A p) i) (nI i)))), ⟨_, by rw [(cntQ_t hq).1], fr_up hf (by omega), (row_n (by omega)).trans h7, fun j hj => ?_⟩, body⟩
      rw [(cntQ_t hq).1] at hj
      rw [(cntQ_t hq).2, row_s]
      show _ = nI (if j = cntQ (leavesB A p) i then i else arrQ (leavesB A p) i j)
      by_cases e : j = cntQ (leavesB A p) i
      · rw [if_pos e, e, up_s]
      · rw [if_neg e, up_n e]; exact h2 j (by omega)
  · right
    have e : i = A.1 5 := by omega
    subst e
    refine ⟨K190 (nI (cntQ (leavesB A p) (A.1 5))) M', hK M' hf h7 h2, fun kk => ?_⟩
    show f_X8_will_112 (nI p) x3 x4 (nI (cntQ (leavesB A p) (A.1 5))) (nI (A.1 5)) M' _ _ = _
    unfold f_X8_will_112
    rw [show (4 : Int32) = nI 4 from rfl, gi_n (by omega) (by omega), clN (j := 4) (by omega), r0, d4, if_pos (Int32.le_refl _)]
theorem s_ways {h k : Nat} {L : Wl} (p1 : L.1 1 = nI k) (p2 : L.1 2 = nI h) (k8 : k ≤ 8) : f_X6_countWays L = some (nI (h ^ k)) := by
  unfold f_X6_countWays
  rw [lett_d, lett_d]
  unfold l_X6_countWays_4
  refine itr_st (fun i => (nI (h ^ i), nI i)) _ k ?_ ?_ FU 0 (by omega) (by rw [FU_d]; omega)
  · intro i kk hi
    show f_X6_countWays_4 (nI (h ^ i)) (nI i) L (fun x1 x2 => kk (x1, x2)) = kk (nI (h ^ i * h), nI (i + 1))
    unfold f_X6_countWays_4
    rw [if_neg (by rw [p1, leN (by omega) (by omega)]; omega), lett_d, lett_d, p2, pk_mul, show nI i + 1 = nI (i + 1) from nI_add i 1]
  · intro kk
    show f_X6_countWays_4 (nI (h ^ k)) (nI k) L (fun x1 x2 => kk (x1, x2)) = _
    unfold f_X6_countWays_4
    rw [if_pos (by rw [p1]; exact Int32.le_refl _)]
theorem m_power {h k : Nat} (k8 : k ≤ 8) : f_X8_power (nI h) (nI k) = some (nI (h ^ k)) := by
  unfold f_X8_power
  rw [lett_d, lett_d]
  unfold l_X8_power_4
  refine itr_st (fun i => (nI (h ^ i), nI i)) _ k ?_ ?_ FU 0 (by omega) (by rw [FU_d]; omega)
  · intro i kk hi
    show f_X8_power_4 (nI h) (nI k) (nI (h ^ i)) (nI i) (fun x1 x2 => kk (x1, x2)) = kk (nI (h ^ i * h), nI (i + 1))
    unfold f_X8_power_4
    rw [if_neg (by rw [leN (by omega) (by omega)]; omega), lett_d, lett_d, pk_mul, show nI i + 1 = nI (i + 1) from nI_add i 1]
  · intro kk
    show f_X8_power_4 (nI h) (nI k) (nI (h ^ k)) (nI k) (fun x1 x2 => kk (x1, x2)) = _
    unfold f_X8_power_4
    rw [if_pos (Int32.le_refl _)]
theorem s_heirOf {h k f q : Nat} {wt hr : Nat → Nat} {L : Wl} (hL : LW h k wt hr L) (e3 : L.1 3 = nI f) (h1 : 1 ≤ h) (h3 : h ≤ 3) (k8 : k ≤ 8) (hf : f < 100000) (hq : q < k) : f_X6_heirOf (nI q) L = some (nI (hr (restN h f (k - 1 - q) % h))) := by
  obtain ⟨p1, p2, p3, p4⟩ := hL
  unfold f_X6_heirOf
  rw [if_neg (by rw [show (0 : Int32) = nI 0 from rfl, ltN (by omega) (by omega)]; omega), if_neg (by rw [p1, leN (by omega) (by omega)]; omega), if_pos (by rw [p2, show (1 : Int32) = nI 1 from rfl, leN (by omega) (by omega)]; exact h1), lett_d, p1, e3]
  unfold l_X6_heirOf_34
  refine itr_st (fun i => (nI (restN h f i), nI (k - i) - 1)) _ (k - 1 - q) ?_ ?_ FU 0 (by omega) (by rw [FU_d]; omega)
  · intro i kk hi
    have rl := restN_le (h := h) (w := f) i
    have ec : nI (k - i) - 1 = nI (k - 1 - i) := by rw [show k - i = (k - 1 - i) + 1 by omega]; exact dec1
    show f_X6_heirOf_34 (nI q) (nI (restN h f i)) (nI (k - i) - 1) L (fun x2 x3 => kk (x2, x3)) _ = kk (nI (restN h f i / h), nI (k - (i + 1)) - 1)
    unfold f_X6_heirOf_34
    rw [ec, if_neg (by rw [leN (by omega) (by omega)]; omega), p2, gz_n (by omega) (by omega), lett_d, lett_d, divN (by omega) (by omega) (by omega), dec2, show nI (k - (i + 1)) = nI (k - 1 - i) from congrArg nI (by omega)]
  · intro kk
    have rl := restN_le (h := h) (w := f) (k - 1 - q)
    have hm : restN h f (k - 1 - q) % h < h := Nat.mod_lt _ (by omega)
    have ec : nI (k - (k - 1 - q)) - 1 = nI q := by rw [show k - (k - 1 - q) = q + 1 by omega]; exact dec1
    show f_X6_heirOf_34 (nI q) (nI (restN h f (k - 1 - q))) (nI (k - (k - 1 - q)) - 1) L (fun x2 x3 => kk (x2, x3)) _ = _
    unfold f_X6_heirOf_34
    rw [ec, if_pos (Int32.le_refl _)]
    show f_X6_heirOf_52 (nI (restN h f (k - 1 - q))) L = _
    unfold f_X6_heirOf_52
    rw [p2, gz_n (by omega) (by omega), modN (by omega) (by omega) (by omega), gi_n (by omega) (by omega), clN (by omega), p4 _ hm]
/-- all ways, on both sides -/
theorem ways_both {A : AT} {b h k : Nat} {ln wt hr : Nat → Nat} {L : Wl} {T : Tw} {x3 : Int32} {M0 M : Ms} {K261 : Int32 → Int32 → Ms → Option (Int32 × Ms)} (hL : LW h k wt hr L) (l0 : L.1 0 = -1) (l3 : L.1 3 = nI 0) (hM : MW A h k ln wt hr M) (hf0 : fr M0 M) (oa : okA b A) (h1 : 1 ≤ h) (h3 : h ≤ 3) (k8 : k ≤ 8) (hw : ∀ j, wt j ≤ 1188) : ∃ L' M' mo f, l_X6_share_31 (nI (h ^ k)) T FU (nI 0) L = some L' ∧ l_X8_will_199 x3 (nI h) (nI k) K261 FU (-1) (nI 0) (nI 0) M = K261 mo (nI f) M' ∧ LW h k wt hr L' ∧ L'.1 0 = mo ∧ L'.1 3 = nI f ∧ f < 100000 ∧ MW A h k ln wt hr M' ∧ fr M0 M' := by
  obtain ⟨w1, w2⟩ := pow38 h1 h3 k8
  unfold l_X6_share_31 l_X8_will_199
  refine itr_two (fun i z w => ∃ L' M' mo f, z = (nI i, L') ∧ w = (mo, nI f, nI i, M') ∧ LW h k wt hr L' ∧ L'.1 0 = mo ∧ L'.1 3 = nI f ∧ f < 100000 ∧ MW A h k ln wt hr M' ∧ fr M0 M') (fun r s => ∃ L' M' mo f, r = some L' ∧ s = K261 mo (nI f) M' ∧ LW h k wt hr L' ∧ L'.1 0 = mo ∧ L'.1 3 = nI f ∧ f < 100000 ∧ MW A h k ln wt hr M' ∧ fr M0 M') (h ^ k) ?_ FU 0 _ _ ⟨L, M, -1, 0, rfl, rfl, hL, l0, l3, by omega, hM, hf0⟩ (Nat.zero_le _) (by rw [FU_d]; omega)
  rintro i z w hi ⟨L', M', mo, f, rfl, rfl, hL', e0, e3, hf, hM', hfr⟩
  have mp := m_power (h := h) k8
  by_cases hlt : i < h ^ k
  · left
    obtain ⟨r7, s1, s2, s3, s4, s5⟩ := s_share3 (w := i) hL' h1 h3 k8 hw (by omega)
    obtain ⟨r8, m1, m2, m3, m4, m5, _⟩ := m_leastBy (w := i) hM' oa h1 h3 k8 hw (by omega)
    have hL2 : LW h k wt hr r7.2 := ⟨by rw [s3]; exact hL'.1, by rw [s3]; exact hL'.2.1, by rw [s4]; exact hL'.2.2.1, by rw [s5]; exact hL'.2.2.2⟩
    have hM2 : MW A h k ln wt hr r8.2 := ⟨by rw [m3.2.2 0 (by omega)]; exact hM'.1, by rw [m5]; exact hM'.2.1, by rw [m4]; exact hM'.2.2⟩
    have hf2 : fr M0 r8.2 := ⟨m3.1.trans hfr.1, m3.2.1.trans hfr.2.1, fun r hr => (m3.2.2 r hr).trans (hfr.2.2 r hr)⟩
    have b7 : ∀ kk : Int32 × Wl → Option Wl, f_X6_share_31 (nI (h ^ k)) (nI i) L' T (fun x5 L => kk (x5, L)) = if nI (leastN h k wt i) ≤ mo then kk (nI (i + 1), r7.2) else kk (nI (i + 1), (upd (upd r7.2.1 0 (nI (leastN h k wt i))) 3 (nI i), r7.2.2)) := by
      intro kk
      unfold f_X6_share_31 f_X6_share_67
      rw [if_neg (by rw [leN (by omega) (by omega)]; omega), s1, bn_s, s2]
      have el : r7.2.1 0 = mo := by rw [s3]; exact e0
      simp only [lett_d]
      rw [el, show nI i + 1 = nI (i + 1) from nI_add i 1]
    have b8 : ∀ kk : Int32 × Int32 × Int32 × Ms → Option (Int32 × Ms), f_X8_will_199 x3 (nI h) (nI k) mo (nI f) (nI i) M' (fun x6 x7 x8 M => kk (x6, x7, x8, M)) K261 = if nI (leastN h k wt i) ≤ mo then kk (mo, nI f, nI (i + 1), r8.2) else kk (nI (leastN h k wt i), nI i, nI (i + 1), r8.2) := by
      intro kk
      unfold f_X8_will_199 f_X8_will_237 f_X8_will_253
      rw [mp, bn_s, if_neg (by rw [leN (by omega) (by omega)]; omega), m1, bn_s, m2]
      simp only [lett_d]
      rw [show nI i + 1 = nI (i + 1) from nI_add i 1]
      by_cases c : nI (leastN h k wt i) ≤ mo
      · simp only [if_pos c]
      · simp only [if_neg c]
    by_cases c : nI (leastN h k wt i) ≤ mo
    · exact ⟨hlt, (nI (i + 1), r7.2), (mo, nI f, nI (i + 1), r8.2), ⟨r7.2, r8.2, mo, f, rfl, rfl, hL2, by rw [s3]; exact e0, by rw [s3]; exact e3, hf, hM2, hf2⟩, fun kk => (b7 kk).trans (if_pos c), fun kk => (b8 kk).trans (if_pos c)⟩
    · refine ⟨hlt, (nI (i + 1), (upd (upd r7.2.1 0 (nI (leastN h k wt i))) 3 (nI i), r7.2.2)), (nI (leastN h k wt i), nI i, nI (i + 1), r8.2), ⟨_, r8.2, _, i, rfl, rfl, ⟨?_, ?_, hL2.2.2.1, hL2.2.2.2⟩, ?_, ?_, by omega, hM2, hf2⟩, fun kk => (b7 kk).trans (if_neg c), fun kk => (b8 kk).trans (if_neg c)⟩
      · exact (show upd (upd r7.2.1 0 (nI (leastN h k wt i))) 3 (nI i) 1 = r7.2.1 1 by rw [up_n (by omega), up_n (by omega)]).trans hL2.1
      · exact (show upd (upd r7.2.1 0 (nI (leastN h k wt i))) 3 (nI i) 2 = r7.2.1 2 by rw [up_n (by omega), up_n (by omega)]).trans hL2.2.1
      · exact (show upd (upd r7.2.1 0 (nI (leastN h k wt i))) 3 (nI i) 0 = _ by rw [up_n (by omega), up_s])
      · exact (show upd (upd r7.2.1 0 (nI (leastN h k wt i))) 3 (nI i) 3 = _ from up_s)
  · right
    have e : i = h ^ k := by omega
    subst e
    refine ⟨some L', K261 mo (nI f) M', ⟨L', M', mo, f, rfl, rfl, hL', e0, e3, hf, hM', hfr⟩, fun kk => ?_, fun kk => ?_⟩
    · show f_X6_share_31 (nI (h ^ k)) (nI (h ^ k)) L' T _ = _
      unfold f_X6_share_31
      rw [if_pos (Int32.le_refl _)]
    · show f_X8_will_199 x3 (nI h) (nI k) mo (nI f) (nI (h ^ k)) M' _ _ = _
      unfold f_X8_will_199
      rw [mp, bn_s, if_pos (Int32.le_refl _)]
