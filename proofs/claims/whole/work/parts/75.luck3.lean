/-! PURE: the chance, asked. -/
theorem gzl_n {β : Type} {d : Nat} {k : Option β} (h0 : 0 < d) (hd : d < 2 ^ 63) : gzl (lN d) k = k := by
  unfold gzl
  have e : ¬ lN d = lN 0 := fun h => by have := (pk_lEQ hd (by omega)).mp h; omega
  exact if_neg e
theorem eucl_le {a c i B : Nat} (ha : a ≤ B) (hc : c ≤ B) (h0 : 0 < c) : (eucl a c i).1 ≤ B ∧ (eucl a c i).2 ≤ B ∧ 0 < (eucl a c i).1 + (eucl a c i).2 := by
  induction i with
  | zero => exact ⟨ha, hc, by show 0 < a + c; omega⟩
  | succ i ih =>
    obtain ⟨h1, h2, h3⟩ := ih
    show (eucl a c i).2 ≤ B ∧ (eucl a c i).1 % (eucl a c i).2 ≤ B ∧ 0 < (eucl a c i).2 + (eucl a c i).1 % (eucl a c i).2
    by_cases e : (eucl a c i).2 = 0
    · rw [e, Nat.mod_zero]; omega
    · have := Nat.mod_lt (eucl a c i).1 (show 0 < (eucl a c i).2 by omega)
      omega
theorem gcd_both {a c : Nat} (ha : a < 2 ^ 41) (hc : c < 2 ^ 41) (h0 : 0 < c) : ∃ g, 0 < g ∧ g < 2 ^ 63 ∧ f_X0_commonDivisor (lN a) (lN c) = some (lN g) ∧ ∀ (x1 x3 : Int64) (M : Ms) (K31 : Int64 → Option Ms), l_X8_tells_6 x1 x3 M K31 FU (lN a) (lN c) = K31 (lN g) := by
  obtain ⟨k, hk, ek⟩ := eucl_end 41 a c hc
  have le : ∀ i, (eucl a c i).1 < 2 ^ 41 ∧ (eucl a c i).2 < 2 ^ 41 ∧ 0 < (eucl a c i).1 + (eucl a c i).2 := fun i => by
    have := eucl_le (a := a) (c := c) (i := i) (B := 2 ^ 41 - 1) (by omega) (by omega) h0
    omega
  have key : ∃ g, 0 < g ∧ g < 2 ^ 63 ∧ f_X0_commonDivisor (lN a) (lN c) = some (lN g) ∧ ∃ i, i ≤ k ∧ g = (eucl a c i).1 ∧ (eucl a c i).2 = 0 ∧ ∀ j, j < i → ¬ (eucl a c j).2 = 0 := by
    unfold f_X0_commonDivisor
    rw [lett_d]
    unfold l_X0_commonDivisor_9
    refine itr_rel (fun i z => z = (lN (eucl a c i).1, lN (eucl a c i).2, nI i) ∧ ∀ j, j < i → ¬ (eucl a c j).2 = 0) (fun r => ∃ g, 0 < g ∧ g < 2 ^ 63 ∧ r = some (lN g) ∧ ∃ i, i ≤ k ∧ g = (eucl a c i).1 ∧ (eucl a c i).2 = 0 ∧ ∀ j, j < i → ¬ (eucl a c j).2 = 0) k ?_ FU 0 _ ⟨rfl, fun j hj => absurd hj (Nat.not_lt_zero _)⟩ (Nat.zero_le _) (by rw [FU_d]; omega)
    rintro i z hi ⟨rfl, hno⟩
    obtain ⟨l1, l2, l3⟩ := le i
    have g200 : ¬ (200 : Int32) ≤ nI i := by rw [show (200 : Int32) = nI 200 from rfl, leN (by omega) (by omega)]; omega
    by_cases e : (eucl a c i).2 = 0
    · right
      refine ⟨some (lN (eucl a c i).1), ⟨_, by omega, by omega, rfl, i, hi, rfl, e, hno⟩, fun kk => ?_⟩
      show f_X0_commonDivisor_9 (lN (eucl a c i).1) (lN (eucl a c i).2) (nI i) _ = _
      unfold f_X0_commonDivisor_9
      rw [if_neg g200, e, if_pos (show lg_cmp (lN 0) 0 = 0 from (lg_cmp_eq _ _).mpr rfl)]
    · left
      have hik : i < k := by
        rcases Nat.lt_or_ge i k with q | q
        · exact q
        · have : i = k := by omega
          subst this; exact absurd ek e
      refine ⟨hik, (lN (eucl a c (i + 1)).1, lN (eucl a c (i + 1)).2, nI (i + 1)), ⟨rfl, fun j hj => ?_⟩, fun kk => ?_⟩
      · by_cases q : j = i
        · subst q; exact e
        · exact hno j (by omega)
      · show f_X0_commonDivisor_9 (lN (eucl a c i).1) (lN (eucl a c i).2) (nI i) _ = _
        unfold f_X0_commonDivisor_9
        have ne : ¬ lg_cmp (lN (eucl a c i).2) 0 = 0 := fun x => by
          have := (lg_cmp_eq _ _).mp x
          have := (pk_lEQ (b := 0) (by omega) (by omega)).mp this
          omega
        rw [if_neg g200, if_neg ne, gzl_n (by omega) (by omega), lett_d, lett_d, pk_lRem (by omega) (by omega) (by omega), show nI i + 1 = nI (i + 1) from nI_add i 1]
        rfl
  obtain ⟨g, g0, g63, e7, i0, hi0, eg, ez, hno⟩ := key
  refine ⟨g, g0, g63, e7, fun x1 x3 M K31 => ?_⟩
  unfold l_X8_tells_6
  refine itr_st (fun i => (lN (eucl a c i).1, lN (eucl a c i).2)) _ i0 ?_ ?_ FU 0 (by omega) (by rw [FU_d]; omega)
  · intro i kk hi
    obtain ⟨l1, l2, l3⟩ := le i
    have e := hno i hi
    show f_X8_tells_6 x1 x3 (lN (eucl a c i).1) (lN (eucl a c i).2) M (fun x5 x7 => kk (x5, x7)) _ = kk (lN (eucl a c i).2, lN ((eucl a c i).1 % (eucl a c i).2))
    unfold f_X8_tells_6
    have ne : ¬ lg_cmp (lN (eucl a c i).2) 0 = 0 := fun x => by
      have := (lg_cmp_eq _ _).mp x
      have := (pk_lEQ (b := 0) (by omega) (by omega)).mp this
      omega
    rw [if_neg ne, gzl_n (by omega) (by omega), lett_d, pk_lRem (by omega) (by omega) (by omega)]
  · intro kk
    show f_X8_tells_6 x1 x3 (lN (eucl a c i0).1) (lN (eucl a c i0).2) M (fun x5 x7 => kk (x5, x7)) _ = _
    unfold f_X8_tells_6
    rw [ez, if_pos (show lg_cmp (lN 0) 0 = 0 from (lg_cmp_eq _ _).mpr rfl), eg]
/-- both tell the same fraction -/
theorem frac_both {a c : Nat} {K : Ch} {M : Ms} (ha : a < 2 ^ 41) (hc : c < 2 ^ 41) (h0 : 0 < c) : ∃ K' M' x y, f_X0_setLowest (lN a) (lN c) K = some K' ∧ f_X8_tells (lN a) (lN c) M = some M' ∧ K'.1 0 = x ∧ K'.1 1 = y ∧ M'.1 = M.1 ∧ M'.2.2 = M.2.2 ∧ M'.2.1 0 = x ∧ M'.2.1 1 = y := by
  obtain ⟨g, g0, g63, e7, e8⟩ := gcd_both ha hc h0
  refine ⟨(vp_updL (vp_updL K.1 0 (lN a / lN g)) 1 (lN c / lN g), K.2), (M.1, vp_updL (vp_updL M.2.1 0 (lN a / lN g)) 1 (lN c / lN g), M.2.2), lN a / lN g, lN c / lN g, ?_, ?_, ?_, ?_, rfl, rfl, ?_, ?_⟩
  · unfold f_X0_setLowest
    rw [e7, bn_s, if_pos (show 0 ≤ lg_cmp (lN g) 1 from (lg_cmp_ge _ _).mpr (show lN 1 ≤ lN g from (pk_lLE (by omega) g63).mpr g0)), gzl_n g0 g63, lett_d, gzl_n g0 g63, lett_d]
  · unfold f_X8_tells
    rw [e8]
    unfold f_X8_tells_31
    rw [gzl_n g0 g63, lett_d, gzl_n g0 g63, lett_d]
  · exact (show vp_updL (vp_updL K.1 0 (lN a / lN g)) 1 (lN c / lN g) 0 = _ by rw [ul_n (by omega), ul_s])
  · exact (show vp_updL (vp_updL K.1 0 (lN a / lN g)) 1 (lN c / lN g) 1 = _ from ul_s)
  · exact (show vp_updL (vp_updL M.2.1 0 (lN a / lN g)) 1 (lN c / lN g) 0 = _ by rw [ul_n (by omega), ul_s])
  · exact (show vp_updL (vp_updL M.2.1 0 (lN a / lN g)) 1 (lN c / lN g) 1 = _ from ul_s)
theorem s_give {A : AT} {T : Tw} {b l c : Nat} {K : Ch} {Q : Option Ch → Prop} (rt : rT A T) (oa : okA b A) (hl : l < A.1 5) (hc : c ≤ 10) (hQ : ∀ K', K'.1 = K.1 → Q (bn (f_X0_setLowest (lN (sumR (fun j => wN (A.2 2 (A.2 3 l)) (A.2 1 (A.2 3 l)) (A.2 4 l) c (A.2 5 l - A.2 7 l) j) (A.2 5 l - A.2 7 l + 1))) (lN (10 ^ (A.2 5 l - A.2 7 l))) K') fun r221 => some r221)) : Q (f_X0_giveToTheEnd (nI l) (nI c) K T) := by
  have a5 := oa.2.2.2.2.2.1
  have a4 := oa.2.2.2.2.1
  obtain ⟨l1, l2, l3, l4, l5, l6, l7, l8⟩ := oa.2.2.2.2.2.2.2.2.1 l hl
  obtain ⟨k0, k1, k2⟩ := oa.2.2.2.2.2.2.2.1 _ l1
  have c3 := rt.2.2.1 3 (by omega) (by omega) l hl
  have c4 := rt.2.2.1 4 (by omega) (by omega) l hl
  have c5 := rt.2.2.1 5 (by omega) (by omega) l hl
  have c7 := rt.2.2.1 7 (by omega) (by omega) l hl
  have d1 := rt.2.1 1 (by omega) (A.2 3 l) l1
  have d2 := rt.2.1 2 (by omega) (A.2 3 l) l1
  unfold f_X0_giveToTheEnd
  rw [gi_n (by omega) (by omega), gi_n (by omega) (by omega), clN (by omega), c5, c7, subN l7]
  generalize hn : A.2 5 l - A.2 7 l = n at *
  have hn12 : n ≤ 12 := by omega
  have mn : (if nI n < (12 : Int32) then nI n else 12) = nI n := by
    by_cases q : nI n < (12 : Int32)
    · rw [if_pos q]
    · rw [if_neg q]
      have lt : (nI n < (12 : Int32)) = (n < 12) := ltN (b := 12) (by omega) (by omega)
      have : n = 12 := by
        have : ¬ n < 12 := fun x => q (lt.mpr x)
        omega
      rw [this]; rfl
  rw [mn, lett_d, gi_n (by omega) (by omega), c3, gi_n (by omega) (by omega), clN (by omega), d2, lett_d, gi_n (by omega) (by omega), gi_n (by omega) (by omega), d1, lett_d]
  generalize A.2 2 (A.2 3 l) = u at *
  generalize A.2 1 (A.2 3 l) = m at *
  generalize A.2 4 l = p at *
  rw [show (0 : Int32) = nI 0 from rfl, gi_n (by omega) (by omega), clN (by omega), lett_d, lett_d, lett_d]
  unfold l_X0_giveToTheEnd_59
  refine itr_rel (fun t z => ∃ K', z = (lN (10 ^ t), nI (t + 1), K') ∧ K'.1 = K.1 ∧ ∀ j, j ≤ t → K'.2 j = lN (wN u m p c t j)) Q n ?_ FU 0 _ ⟨_, rfl, rfl, fun j hj => ?_⟩ (Nat.zero_le _) (by rw [FU_d]; omega)
  rotate_left
  · have : j = 0 := by omega
    subst this
    exact (show vp_updL K.2 0 1 0 = _ from ul_s)
  rintro t z ht ⟨K', rfl, e1, hw⟩
  by_cases hlt : t < n
  · left
    obtain ⟨Kx, hKx⟩ : ∃ Kx : Ch, Kx = (K'.1, vp_updL K'.2 (t + 1) 0) := ⟨_, rfl⟩
    have h0 : ∀ j, j ≤ t + 1 → Kx.2 j = lN (wN u m p c t j) := by
      intro j hj
      rw [hKx]
      show vp_updL K'.2 (t + 1) 0 j = _
      by_cases e : j = t + 1
      · rw [e, ul_s, w_gt t (t + 1) (by omega)]; rfl
      · rw [ul_n e]; exact hw j (by omega)
    -- one month more, whatever goes on
    have one : ∃ K2, K2.1 = K.1 ∧ (∀ j, j ≤ t + 1 → K2.2 j = lN (wN u m p c (t + 1) j)) ∧ ∀ K171 : Ch → Option Ch, l_X0_giveToTheEnd_78 (nI l) (nI c) (nI n) (nI u) (nI m) (lN (10 ^ t)) (nI (t + 1)) T K171 FU (nI (t + 1)) Kx = K171 K2 := by
      refine ⟨(Kx.1, wRow u m p c t (t + 2) Kx.2), by rw [hKx]; exact e1, fun j hj => ?_, fun K171 => s_weights (show l < 8 by omega) c4 (by omega) (by omega) l3 hc (by omega) h0⟩
      show wRow u m p c t (t + 2) Kx.2 j = _
      unfold wRow
      rw [if_pos (by omega)]
    obtain ⟨K2, q1, q2, q3⟩ := one
    refine ⟨hlt, (lN (10 ^ (t + 1)), nI (t + 1 + 1), K2), ⟨K2, rfl, q1, q2⟩, fun kk => ?_⟩
    show f_X0_giveToTheEnd_59 (nI l) (nI c) (nI n) (nI u) (nI m) (lN (10 ^ t)) (nI (t + 1)) K' T _ _ = _
    unfold f_X0_giveToTheEnd_59
    rw [if_neg (by rw [ltN (by omega) (by omega)]; omega), gi_n (by omega) (by omega), clN (by omega), lett_d, ← hKx, q3]
    unfold f_X0_giveToTheEnd_171
    rw [lett_d, lett_d, show lN (10 ^ t) * 10 = lN (10 ^ t * 10) from lNm _ 10, show nI (t + 1) + 1 = nI (t + 1 + 1) from nI_add (t + 1) 1]
    rfl
  · right
    have e : t = n := by omega
    subst e
    refine ⟨_, hQ K' e1, fun kk => ?_⟩
    show f_X0_giveToTheEnd_59 (nI l) (nI c) (nI t) (nI u) (nI m) (lN (10 ^ t)) (nI (t + 1)) K' T _ _ = _
    unfold f_X0_giveToTheEnd_59
    rw [if_pos (by rw [ltN (by omega) (by omega)]; omega)]
    show f_X0_giveToTheEnd_185 (nI t) (lN (10 ^ t)) K' T = _
    unfold f_X0_giveToTheEnd_185
    rw [lett_d, lett_d]
    unfold l_X0_giveToTheEnd_191
    refine itr_st (fun i => (lN (sumR (fun j => wN u m p c t j) i), nI i)) _ (t + 1) ?_ ?_ FU 0 (by omega) (by rw [FU_d]; omega)
    · intro i kk hi
      show f_X0_giveToTheEnd_191 (nI t) (lN (10 ^ t)) (lN (sumR (fun j => wN u m p c t j) i)) (nI i) K' T (fun x9 x11 => kk (x9, x11)) _ = kk (lN (sumR (fun j => wN u m p c t j) i + wN u m p c t i), nI (i + 1))
      unfold f_X0_giveToTheEnd_191
      rw [if_neg (by rw [ltN (by omega) (by omega)]; omega), gi_n (by omega) (by omega), clN (by omega), lett_d, lett_d, hw i (by omega), lNa, show nI i + 1 = nI (i + 1) from nI_add i 1]
    · intro kk
      show f_X0_giveToTheEnd_191 (nI t) (lN (10 ^ t)) (lN (sumR (fun j => wN u m p c t j) (t + 1))) (nI (t + 1)) K' T (fun x9 x11 => kk (x9, x11)) _ = _
      unfold f_X0_giveToTheEnd_191
      rw [if_pos (by rw [ltN (by omega) (by omega)]; omega)]
      rfl
theorem m_all10 {n : Nat} {x2 x3 x4 : Int32} {M : Ms} {K105 : Int64 → Option (Int32 × Ms)} (hn : n ≤ 12) : l_X8_luck_84 x2 x3 x4 (nI n) M K105 FU (lN 1) (nI 0) = K105 (lN (10 ^ n)) := by
  unfold l_X8_luck_84
  refine itr_st (fun i => (lN (10 ^ i), nI i)) _ n ?_ ?_ FU 0 (by omega) (by rw [FU_d]; omega)
  · intro i kk hi
    show f_X8_luck_84 x2 x3 x4 (nI n) (lN (10 ^ i)) (nI i) M (fun x6 x8 => kk (x6, x8)) _ = kk (lN (10 ^ i * 10), nI (i + 1))
    unfold f_X8_luck_84
    rw [if_neg (by rw [leN (by omega) (by omega)]; omega), lett_d, lett_d, show lN (10 ^ i) * 10 = lN (10 ^ i * 10) from lNm _ 10, show nI i + 1 = nI (i + 1) from nI_add i 1]
  · intro kk
    show f_X8_luck_84 x2 x3 x4 (nI n) (lN (10 ^ n)) (nI n) M (fun x6 x8 => kk (x6, x8)) _ = _
    unfold f_X8_luck_84
    rw [if_pos (Int32.le_refl _)]
theorem pow12 {n : Nat} (hn : n ≤ 12) : (1 : Int32) <<< (nI n &&& 31) = nI (2 ^ n) ∧ 2 ^ n ≤ 4096 := by
  have key : ∀ n : Fin 13, (1 : Int32) <<< (nI n.val &&& 31) = nI (2 ^ n.val) ∧ 2 ^ n.val ≤ 4096 := by decide +kernel
  exact key ⟨n, by omega⟩
section
variable {b : Nat} {B : Nat → Int32} {N : Tw} {P : Ps} {I1 : Int32} {T1 : Tw} {P1 : Ps} {I2 : Int32} {T2 : Tw} {P2 : Ps} {X : Tx} {K : Ch} {M : Ms}
theorem q_luck (h : SR b B N P I1 T1 P1 I2 T2 P2 X K M) (x y : Int32) : ∃ r B' K' M', f_X7_luck x y B N K = some (r, B', K') ∧ f_X8_luck x y M = some (r, M') ∧ SR (b + 96) B' N P I1 T1 P1 I2 T2 P2 X K' M' := by
  obtain ⟨A, H, rt, rm, oa, rp, rmp, op⟩ := h.2.1
  unfold f_X7_luck f_X8_luck f_X7_luck_21 f_X8_luck_18
  rcases loan_cases rt rm oa x with ⟨l, hl, e, e8, e7⟩ | ⟨e8, e7⟩
  · rw [e7, e8]
    rcases in_cases y 0 10 (by omega) (by omega) with ⟨c, _, hc, f, f8, f7⟩ | ⟨f8, f7⟩
    · rw [show f_X7_within y 0 10 = some 1 from f7, show f_X8_in y 0 10 = some 1 from f8]
      subst e f
      simp only [bn_s, if_neg i10]
      have a5 := oa.2.2.2.2.2.1
      have a4 := oa.2.2.2.2.1
      obtain ⟨l1, l2, l3, l4, l5, l6, l7, l8⟩ := oa.2.2.2.2.2.2.2.2.1 l hl
      obtain ⟨k0, k1, k2⟩ := oa.2.2.2.2.2.2.2.1 _ l1
      have c6 := rt.2.2.1 6 (by omega) (by omega) l hl
      have d3 : (M.2.2 0) (26 + 5 * l) = nI (A.2 3 l) := rm.2.2.2.1 0 (by omega) l hl
      have d4 : (M.2.2 0) (26 + 5 * l + 1) = nI (A.2 4 l) := rm.2.2.2.1 1 (by omega) l hl
      have d5 : (M.2.2 0) (26 + 5 * l + 2) = nI (A.2 5 l) := rm.2.2.2.1 2 (by omega) l hl
      have d6 : (M.2.2 0) (26 + 5 * l + 3) = nI (A.2 6 l) := rm.2.2.2.1 3 (by omega) l hl
      have d7 : (M.2.2 0) (26 + 5 * l + 4) = nI (A.2 7 l) := rm.2.2.2.1 4 (by omega) l hl
      have u1 : (M.2.2 0) (8 + 3 * A.2 3 l + 1) = nI (A.2 1 (A.2 3 l)) := rm.2.2.1 1 (by omega) _ l1
      have u2 : (M.2.2 0) (8 + 3 * A.2 3 l + 2) = nI (A.2 2 (A.2 3 l)) := rm.2.2.1 2 (by omega) _ l1
      have e26 : (26 : Int32) + (5 : Int32) * nI l = nI (26 + 5 * l) := by simp only [litI, pk_mul, nI_add]
      have e8' : (8 : Int32) + (3 : Int32) * nI (A.2 3 l) = nI (8 + 3 * A.2 3 l) := by simp only [litI, pk_mul, nI_add]
      have z0 : (nI (A.2 6 l) = 0) = (A.2 6 l = 0) := eqN (b := 0) (by omega) (by omega)
      rw [gi_n (by omega) (by omega), clN (by omega), c6, lett_d, e26, show nI (26 + 5 * l) + 3 = nI (26 + 5 * l + 3) from nI_add _ 3, gi_n (by omega) (by omega), clN (by omega), d6]
      by_cases s0 : A.2 6 l = 0
      · rw [if_pos (z0.mpr s0), if_pos (z0.mpr s0)]
        have hn : A.2 5 l - A.2 7 l ≤ 12 := by omega
        obtain ⟨pw, p4⟩ := pow12 hn
        rw [gi_n (by omega) (by omega), clN (by omega), d3, lett_d, e8', show nI (26 + 5 * l) + 2 = nI (26 + 5 * l + 2) from nI_add _ 2, show nI (26 + 5 * l) + 4 = nI (26 + 5 * l + 4) from nI_add _ 4, gi_n (by omega) (by omega), gi_n (by omega) (by omega), clN (by omega), clN (by omega), d5, d7, subN l7, lett_d, lett_d, lett_d]
        rw [show l_X8_luck_84 (nI c) (nI (26 + 5 * l)) (nI (8 + 3 * A.2 3 l)) (nI (A.2 5 l - A.2 7 l)) M (fun x6 => f_X8_luck_105 (nI c) (nI (26 + 5 * l)) (nI (8 + 3 * A.2 3 l)) (nI (A.2 5 l - A.2 7 l)) x6 M) FU 1 0 = _ from m_all10 hn]
        unfold f_X8_luck_105
        rw [lett_d, lett_d]
        have sum8 : ∀ K165 : Int64 → Option (Int32 × Ms), l_X8_luck_111 (nI c) (nI (26 + 5 * l)) (nI (8 + 3 * A.2 3 l)) (nI (A.2 5 l - A.2 7 l)) (lN (10 ^ (A.2 5 l - A.2 7 l))) M K165 FU (lN 0) (nI 0) = K165 (lN (sumR (fun r => luU (A.2 2 (A.2 3 l)) (A.2 1 (A.2 3 l)) (A.2 4 l) c r (A.2 5 l - A.2 7 l)) (2 ^ (A.2 5 l - A.2 7 l)))) := by
          intro K165
          unfold l_X8_luck_111
          refine itr_st (fun i => (lN (sumR (fun r => luU (A.2 2 (A.2 3 l)) (A.2 1 (A.2 3 l)) (A.2 4 l) c r (A.2 5 l - A.2 7 l)) i), nI i)) _ (2 ^ (A.2 5 l - A.2 7 l)) ?_ ?_ FU 0 (Nat.zero_le _) (by rw [FU_d]; omega)
          · intro i kk hi
            show f_X8_luck_111 (nI c) (nI (26 + 5 * l)) (nI (8 + 3 * A.2 3 l)) (nI (A.2 5 l - A.2 7 l)) (lN (10 ^ (A.2 5 l - A.2 7 l))) (lN (sumR (fun r => luU (A.2 2 (A.2 3 l)) (A.2 1 (A.2 3 l)) (A.2 4 l) c r (A.2 5 l - A.2 7 l)) i)) (nI i) M (fun x8 x10 => kk (x8, x10)) _ = kk (lN (sumR (fun r => luU (A.2 2 (A.2 3 l)) (A.2 1 (A.2 3 l)) (A.2 4 l) c r (A.2 5 l - A.2 7 l)) i + luU (A.2 2 (A.2 3 l)) (A.2 1 (A.2 3 l)) (A.2 4 l) c i (A.2 5 l - A.2 7 l)), nI (i + 1))
            unfold f_X8_luck_111
            rw [if_neg (by rw [pw, leN (by omega) (by omega)]; omega), show nI (8 + 3 * A.2 3 l) + 2 = nI (8 + 3 * A.2 3 l + 2) from nI_add _ 2, show nI (8 + 3 * A.2 3 l) + 1 = nI (8 + 3 * A.2 3 l + 1) from nI_add _ 1, show nI (26 + 5 * l) + 1 = nI (26 + 5 * l + 1) from nI_add _ 1, gi_n (by omega) (by omega), gi_n (by omega) (by omega), gi_n (by omega) (by omega), clN (by omega), clN (by omega), clN (by omega), u2, u1, d4, m_lucky k2 k1 l2 l3 hn hc, bn_s, lett_d, lett_d, lNa, show nI i + 1 = nI (i + 1) from nI_add i 1]
          · intro kk
            show f_X8_luck_111 _ _ _ (nI (A.2 5 l - A.2 7 l)) _ _ (nI (2 ^ (A.2 5 l - A.2 7 l))) M _ _ = _
            unfold f_X8_luck_111
            rw [if_pos (by rw [pw]; exact Int32.le_refl _)]
        rw [show l_X8_luck_111 (nI c) (nI (26 + 5 * l)) (nI (8 + 3 * A.2 3 l)) (nI (A.2 5 l - A.2 7 l)) (lN (10 ^ (A.2 5 l - A.2 7 l))) M (fun x8 => f_X8_luck_165 (lN (10 ^ (A.2 5 l - A.2 7 l))) x8 M) FU 0 0 = _ from sum8 _]
        rw [all_sum]
        have le := all_le (u := A.2 2 (A.2 3 l)) (m := A.2 1 (A.2 3 l)) (p := A.2 4 l) hc (A.2 5 l - A.2 7 l)
        rw [all_sum] at le
        have t12 : (10 : Nat) ^ (A.2 5 l - A.2 7 l) ≤ 10 ^ 12 := Nat.pow_le_pow_right (by omega) hn
        have t41 : (10 : Nat) ^ 12 < 2 ^ 41 := by decide
        have t0 : 0 < (10 : Nat) ^ (A.2 5 l - A.2 7 l) := Nat.pow_pos (by omega)
        refine s_give (Q := fun r => ∃ v B' K' M', (bn r fun r53 => some ((1 : Int32), (B, r53))) = some (v, B', K') ∧ f_X8_luck_165 (lN (10 ^ (A.2 5 l - A.2 7 l))) (lN (sumR (fun j => wN (A.2 2 (A.2 3 l)) (A.2 1 (A.2 3 l)) (A.2 4 l) c (A.2 5 l - A.2 7 l) j) (A.2 5 l - A.2 7 l + 1))) M = some (v, M') ∧ SR (b + 96) B' N P I1 T1 P1 I2 T2 P2 X K' M') rt oa hl hc (fun K1 eK => ?_)
        obtain ⟨K2, M2, a, d, g1, g2, g3, g4, g5, g6, g7, g8⟩ := frac_both (a := sumR (fun j => wN (A.2 2 (A.2 3 l)) (A.2 1 (A.2 3 l)) (A.2 4 l) c (A.2 5 l - A.2 7 l) j) (A.2 5 l - A.2 7 l + 1)) (c := 10 ^ (A.2 5 l - A.2 7 l)) (K := K1) (M := M) (by omega) (by omega) t0
        unfold f_X8_luck_165
        rw [g1, g2, bn_s, bn_s, bn_s]
        refine ⟨_, _, _, _, rfl, rfl, ?_⟩
        obtain ⟨h1, h2, h3, h4, h5, h6⟩ := SR_96 h
        unfold SR
        rw [g5, g6]
        exact ⟨h1, h2, h3, h4, h5, by rw [g3, g7], by rw [g4, g8]⟩
      · rw [if_neg (fun x => s0 (z0.mp x)), if_neg (fun x => s0 (z0.mp x))]
        simp only [no7, no8, bn_s]
        exact ⟨_, _, _, _, rfl, rfl, SR_no h⟩
    · rw [show f_X7_within y 0 10 = some 0 from f7, show f_X8_in y 0 10 = some 0 from f8]
      simp only [bn_s, if_true, if_neg i10, bad7, bad8]
      exact ⟨_, _, _, _, rfl, rfl, SR_bad h⟩
  · rw [e7, e8]
    simp only [bn_s, if_true, bad7, bad8]
    exact ⟨_, _, _, _, rfl, rfl, SR_bad h⟩
end
