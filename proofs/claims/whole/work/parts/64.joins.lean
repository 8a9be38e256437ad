/-! PURE: the fewest holes that make a whole. -/
def onesN (v : Nat) : Nat := (if v.testBit 0 then 1 else 0) + (if v.testBit 1 then 1 else 0) + (if v.testBit 2 then 1 else 0) + (if v.testBit 3 then 1 else 0) + (if v.testBit 4 then 1 else 0) + (if v.testBit 5 then 1 else 0) + (if v.testBit 6 then 1 else 0) + (if v.testBit 7 then 1 else 0)
theorem onesN_le (v : Nat) : onesN v ≤ 8 := by
  unfold onesN
  have h : ∀ c : Bool, (if c = true then 1 else 0) ≤ (1 : Nat) := by decide
  have := h (v.testBit 0)
  have := h (v.testBit 1)
  have := h (v.testBit 2)
  have := h (v.testBit 3)
  have := h (v.testBit 4)
  have := h (v.testBit 5)
  have := h (v.testBit 6)
  have := h (v.testBit 7)
  omega
theorem s_count {v : Nat} (hv : v < 256) : f_J6_bitCount_0f7a4 (nI v) = some (nI (onesN v)) := by
  have key : ∀ v : Fin 256, f_J6_bitCount_0f7a4 (nI v.val) = some (nI (onesN v.val)) := by decide +kernel
  exact key ⟨v, hv⟩
theorem m_ones {v : Nat} (hv : v < 256) : f_X8_ones (nI v) = some (nI (onesN v)) := by
  have key : ∀ v : Fin 256, f_X8_ones (nI v.val) = some (nI (onesN v.val)) := by decide +kernel
  exact key ⟨v, hv⟩
theorem pow_n {n : Nat} (hn : n ≤ 8) : (1 : Int32) <<< (nI n &&& 31) = nI (2 ^ n) := by
  have key : ∀ n : Fin 9, (1 : Int32) <<< (nI n.val &&& 31) = nI (2 ^ n.val) := by decide +kernel
  exact key ⟨n, by omega⟩
theorem pow_le {n : Nat} (hn : n ≤ 8) : 1 ≤ 2 ^ n ∧ 2 ^ n ≤ 256 := by
  have key : ∀ n : Fin 9, 1 ≤ 2 ^ n.val ∧ 2 ^ n.val ≤ 256 := by decide
  exact key ⟨n, by omega⟩
theorem neg1 {q : Nat} (hq : q < 1000) : ¬ nI q = (-1 : Int32) := by
  intro h
  have e := congrArg Int32.toInt h
  rw [nI_toInt (by omega)] at e
  have e2 : (-1 : Int32).toInt = -1 := by decide
  rw [e2] at e
  omega
theorem makes_both {A : AT} {T : Tw} {M : Ms} {b : Nat} {s : Int32} (rt : rT A T) (rm : rM A (M.2.2 0)) (oa : okA b A) : ∃ y, f_X5_holesMakeWhole s T = some y ∧ f_X8_makes s M = some y := by
  have a5 := oa.2.2.2.2.2.1
  have c5 := rt.1 5 (by omega)
  have c4 : (M.2.2 0) 4 = nI (A.1 5) := rm.2.1 5 (by omega)
  have row : ∀ l, l < A.1 5 → (M.2.2 0) (26 + 5 * l + 1) = nI (A.2 4 l) ∧ (M.2.2 0) (26 + 5 * l + 2) = nI (A.2 5 l) ∧ (M.2.2 0) (26 + 5 * l + 3) = nI (A.2 6 l) ∧ (M.2.2 0) (26 + 5 * l + 4) = nI (A.2 7 l) := fun l hl => ⟨rm.2.2.2.1 1 (by omega) l hl, rm.2.2.2.1 2 (by omega) l hl, rm.2.2.2.1 3 (by omega) l hl, rm.2.2.2.1 4 (by omega) l hl⟩
  unfold f_X5_holesMakeWhole f_X8_makes
  rw [lett_d, lett_d, lett_d, lett_d, lett_d, lett_d, show (0 : Int32) = nI 0 from rfl]
  unfold l_X5_holesMakeWhole_7 l_X8_makes_7
  refine itr_two (fun i z w => ∃ x x' g, z = (x, g, nI i) ∧ w = (x', g, nI i) ∧ ((x = -1 ∧ x' = -1) ∨ ∃ q, q < i ∧ x = nI q ∧ x' = nI (26 + 5 * q))) (fun r s => ∃ y, r = some y ∧ s = some y) (A.1 5) ?_ FU 0 _ _ ⟨-1, -1, nI 0, rfl, rfl, Or.inl ⟨rfl, rfl⟩⟩ (Nat.zero_le _) (by rw [FU_d]; omega)
  rintro i z w hi ⟨x, x', g, rfl, rfl, hx⟩
  by_cases hlt : i < A.1 5
  · have g1 : ¬ T.1 5 ≤ nI i := by rw [c5, leN (by omega) (by omega)]; omega
    have g2 : ¬ (M.2.2 0) 4 ≤ nI i := by rw [c4, leN (by omega) (by omega)]; omega
    -- a loan that is in the set, the first one being q
    have one : ∀ q, q < A.1 5 → (∃ g', (∀ k : Int32 × Int32 × Int32 → Option Int32, f_X5_holesMakeWhole_36 s (nI q) g (nI i) T (fun x2 x3 x4 => k (x2, x3, x4)) = k (nI q, g', nI (i + 1))) ∧ (∀ k : Int32 × Int32 × Int32 → Option Int32, f_X8_makes_48 s g (nI i) (nI (26 + 5 * i)) (nI (26 + 5 * q)) M (fun x2 x3 x4 => k (x2, x3, x4)) = k (nI (26 + 5 * q), g', nI (i + 1)))) ∨ ((∀ k : Int32 × Int32 × Int32 → Option Int32, f_X5_holesMakeWhole_36 s (nI q) g (nI i) T (fun x2 x3 x4 => k (x2, x3, x4)) = some 0) ∧ (∀ k : Int32 × Int32 × Int32 → Option Int32, f_X8_makes_48 s g (nI i) (nI (26 + 5 * i)) (nI (26 + 5 * q)) M (fun x2 x3 x4 => k (x2, x3, x4)) = some 0)) := by
      intro q hq
      obtain ⟨r1, r2, r3, r4⟩ := row i hlt
      obtain ⟨t1, t2, t3, t4⟩ := row q hq
      have c6 := rt.2.2.1 6 (by omega) (by omega) i hlt
      have c7 := rt.2.2.1 7 (by omega) (by omega) i hlt
      obtain ⟨_, k2, k3, k4, k5, k6, k7, _⟩ := oa.2.2.2.2.2.2.2.2.1 i hlt
      obtain ⟨_, j2, j3, j4, j5, j6, j7, _⟩ := oa.2.2.2.2.2.2.2.2.1 q hq
      have al := s_alike rt oa hq hlt
      unfold f_X5_holesMakeWhole_36 f_X8_makes_48 f_X5_holesMakeWhole_69 f_X8_makes_116
      rw [al]
      simp (disch := omega) only [show (1 : Int32) = nI 1 from rfl, show (2 : Int32) = nI 2 from rfl, show (3 : Int32) = nI 3 from rfl, show (4 : Int32) = nI 4 from rfl, gi_n, clN, nI_add, c6, c7, r1, r2, r3, r4, t1, t2, t3, t4, eqN, lett_d, bn_s]
      by_cases h2 : A.2 6 i = 2
      · simp only [if_pos h2]
        by_cases ha : A.2 4 q = A.2 4 i ∧ A.2 5 q = A.2 5 i
        · left
          simp only [if_pos ha, if_pos ha.1.symm, if_pos ha.2.symm, if_neg (show ¬ nI 1 = 0 from i10)]
          exact ⟨_, fun _ => rfl, fun _ => rfl⟩
        · right
          simp only [if_neg ha, if_true]
          refine ⟨fun _ => trivial, fun k => ?_⟩
          by_cases h4 : A.2 4 i = A.2 4 q
          · rw [if_pos h4, if_neg (fun h5 => ha ⟨h4.symm, h5.symm⟩)]
          · rw [if_neg h4]
      · right
        simp only [if_neg h2]
        exact ⟨fun _ => trivial, fun _ => trivial⟩
    have e5 : ∀ i : Nat, (26 : Int32) + (5 : Int32) * nI i = nI (26 + 5 * i) := fun i => by simp only [litI, pk_mul, nI_add]
    have b7 : ∀ k : Int32 × Int32 × Int32 → Option Int32, f_X5_holesMakeWhole_7 s x g (nI i) T (fun x2 x3 x4 => k (x2, x3, x4)) (fun x2 x3 => f_X5_holesMakeWhole_75 x2 x3 T) = if bitI s i then (if x = -1 then f_X5_holesMakeWhole_36 s (nI i) g (nI i) T (fun x2 x3 x4 => k (x2, x3, x4)) else f_X5_holesMakeWhole_36 s x g (nI i) T (fun x2 x3 x4 => k (x2, x3, x4))) else k (x, g, nI (i + 1)) := by
      intro k
      unfold f_X5_holesMakeWhole_7
      rw [if_neg g1, s_bit s (by omega), bn_s]
      cases bitI s i
      · rw [if_neg (show ¬ (false = true) by decide), if_pos rfl, if_neg (show ¬ (false = true) by decide)]
        unfold f_X5_holesMakeWhole_69
        rw [lett_d, show nI i + 1 = nI (i + 1) from nI_add i 1]
      · rw [if_pos rfl, if_neg i10, if_pos rfl]
    have b8 : ∀ k : Int32 × Int32 × Int32 → Option Int32, f_X8_makes_7 s x' g (nI i) M (fun x2 x3 x4 => k (x2, x3, x4)) (fun x2 x3 => f_X8_makes_122 x2 x3 M) = if bitI s i then (if x' = -1 then f_X8_makes_48 s g (nI i) (nI (26 + 5 * i)) (nI (26 + 5 * i)) M (fun x2 x3 x4 => k (x2, x3, x4)) else f_X8_makes_48 s g (nI i) (nI (26 + 5 * i)) x' M (fun x2 x3 x4 => k (x2, x3, x4))) else k (x', g, nI (i + 1)) := by
      intro k
      unfold f_X8_makes_7
      rw [show (4 : Int32) = nI 4 from rfl, gi_n (by omega) (by omega), clN (by omega), if_neg g2, shr_bit s (by omega), lett_d, e5]
      cases bitI s i
      · rw [if_neg (show ¬ (false = true) by decide), if_neg (show ¬ (0 : Int32) = 1 by decide), if_neg (show ¬ (false = true) by decide)]
        unfold f_X8_makes_116
        rw [lett_d, show nI i + 1 = nI (i + 1) from nI_add i 1]
      · rw [if_pos rfl, if_pos rfl, if_pos rfl]
    cases hb : bitI s i
    · left
      rw [hb] at b7 b8
      refine ⟨hlt, (x, g, nI (i + 1)), (x', g, nI (i + 1)), ⟨x, x', g, rfl, rfl, ?_⟩, fun k => b7 k, fun k => b8 k⟩
      rcases hx with hx | ⟨q, hq, e1, e2⟩
      · exact Or.inl hx
      · exact Or.inr ⟨q, by omega, e1, e2⟩
    · rw [hb] at b7 b8
      simp only [if_true] at b7 b8
      -- the first one
      have first : ∃ q, q ≤ i ∧ q < A.1 5 ∧ (∀ k : Int32 × Int32 × Int32 → Option Int32, f_X5_holesMakeWhole_7 s x g (nI i) T (fun x2 x3 x4 => k (x2, x3, x4)) (fun x2 x3 => f_X5_holesMakeWhole_75 x2 x3 T) = f_X5_holesMakeWhole_36 s (nI q) g (nI i) T (fun x2 x3 x4 => k (x2, x3, x4))) ∧ (∀ k : Int32 × Int32 × Int32 → Option Int32, f_X8_makes_7 s x' g (nI i) M (fun x2 x3 x4 => k (x2, x3, x4)) (fun x2 x3 => f_X8_makes_122 x2 x3 M) = f_X8_makes_48 s g (nI i) (nI (26 + 5 * i)) (nI (26 + 5 * q)) M (fun x2 x3 x4 => k (x2, x3, x4))) := by
        rcases hx with ⟨e1, e2⟩ | ⟨q, hq, e1, e2⟩
        · refine ⟨i, Nat.le_refl _, hlt, fun k => ?_, fun k => ?_⟩
          · rw [b7, if_pos e1]
          · rw [b8, if_pos e2]
        · refine ⟨q, by omega, by omega, fun k => ?_, fun k => ?_⟩
          · rw [b7, if_neg (by rw [e1]; exact neg1 (by omega)), e1]
          · rw [b8, if_neg (by rw [e2]; exact neg1 (by omega)), e2]
      obtain ⟨q, hqi, hq, f7, f8⟩ := first
      rcases one q hq with ⟨g', o1, o2⟩ | ⟨o1, o2⟩
      · left
        exact ⟨hlt, (nI q, g', nI (i + 1)), (nI (26 + 5 * q), g', nI (i + 1)), ⟨_, _, _, rfl, rfl, Or.inr ⟨q, by omega, rfl, rfl⟩⟩, fun k => (f7 k).trans (o1 k), fun k => (f8 k).trans (o2 k)⟩
      · right
        exact ⟨some 0, some 0, ⟨0, rfl, rfl⟩, fun k => (f7 k).trans (o1 k), fun k => (f8 k).trans (o2 k)⟩
  · right
    have e : i = A.1 5 := by omega
    subst e
    have fin : ∃ y, f_X5_holesMakeWhole_75 x g T = some y ∧ f_X8_makes_122 x' g M = some y := by
      unfold f_X5_holesMakeWhole_75 f_X8_makes_122
      rcases hx with ⟨e1, e2⟩ | ⟨q, hq, e1, e2⟩
      · rw [if_pos e1, if_pos e2]; exact ⟨0, rfl, rfl⟩
      · obtain ⟨t1, t2, t3, t4⟩ := row q hq
        have d5 := rt.2.2.1 5 (by omega) (by omega) q hq
        rw [if_neg (show ¬ x = -1 by rw [e1]; exact neg1 (by omega)), if_neg (show ¬ x' = -1 by rw [e2]; exact neg1 (by omega)), e1, e2, gi_n (by omega) (by omega), clN (by omega), d5, show (2 : Int32) = nI 2 from rfl, nI_add, gi_n (by omega) (by omega), clN (by omega), t2]
        by_cases c : g < nI (A.2 5 q)
        · rw [if_pos c]; exact ⟨0, rfl, rfl⟩
        · rw [if_neg c]; exact ⟨1, rfl, rfl⟩
    obtain ⟨y, y1, y2⟩ := fin
    refine ⟨some y, some y, ⟨y, rfl, rfl⟩, fun k => ?_, fun k => ?_⟩
    · show f_X5_holesMakeWhole_7 s x g (nI (A.1 5)) T _ _ = _
      unfold f_X5_holesMakeWhole_7
      rw [c5, if_pos (Int32.le_refl _)]
      exact y1
    · show f_X8_makes_7 s x' g (nI (A.1 5)) M _ _ = _
      unfold f_X8_makes_7
      rw [show (4 : Int32) = nI 4 from rfl, gi_n (by omega) (by omega), clN (by omega), c4, if_pos (Int32.le_refl _)]
      exact y2
section
variable {b : Nat} {B : Nat → Int32} {N : Tw} {P : Ps} {I1 : Int32} {T1 : Tw} {P1 : Ps} {I2 : Int32} {T2 : Tw} {P2 : Ps} {X : Tx} {K : Ch} {M : Ms}
theorem q_joins (h : SR b B N P I1 T1 P1 I2 T2 P2 X K M) : ∃ r, f_X7_joins B N = some r ∧ f_X8_joins M = some r ∧ SR (b + 96) B N P I1 T1 P1 I2 T2 P2 X K M := by
  obtain ⟨A, H, rt, rm, oa, rp, rmp, op⟩ := h.2.1
  have a5 := oa.2.2.2.2.2.1
  have c5 := rt.1 5 (by omega)
  have c4 : (M.2.2 0) 4 = nI (A.1 5) := rm.2.1 5 (by omega)
  obtain ⟨p1, p2⟩ := pow_le a5
  have pw := pow_n a5
  have key : ∃ r, f_X7_joins B N = some r ∧ f_X8_joins M = some r := by
    unfold f_X7_joins f_X8_joins
    rw [lett_d, lett_d, lett_d, lett_d, lett_d]
    unfold l_X7_joins_7 l_X8_joins_4
    refine itr_two (fun i z w => ∃ f u, z = (nI f, u, nI (i + 1)) ∧ w = (u, nI (i + 1)) ∧ ((u = -1 ∧ f = 9) ∨ ∃ q, q < 256 ∧ u = nI q ∧ f = onesN q)) (fun r s => ∃ y, r = some y ∧ s = some y) (2 ^ A.1 5 - 1) ?_ FU 0 _ _ ⟨9, -1, rfl, rfl, Or.inl ⟨rfl, rfl⟩⟩ (Nat.zero_le _) (by rw [FU_d]; omega)
    rintro i z w hi ⟨f, u, rfl, rfl, hu⟩
    by_cases hlt : i < 2 ^ A.1 5 - 1
    · have hv : i + 1 < 256 := by omega
      have g1 : ¬ (1 : Int32) <<< ((N.1 5) &&& 31) ≤ nI (i + 1) := by rw [c5, pw, leN (by omega) (by omega)]; omega
      have g2 : ¬ (1 : Int32) <<< (((M.2.2 0) 4) &&& 31) ≤ nI (i + 1) := by rw [c4, pw, leN (by omega) (by omega)]; omega
      obtain ⟨y, y7, y8⟩ := makes_both (s := nI (i + 1)) rt rm oa
      have ho := onesN_le (i + 1)
      have hf : f ≤ 9 := by
        rcases hu with hu | ⟨q, _, _, hu⟩
        · omega
        · have := onesN_le q; omega
      have b7 : ∀ k : Int32 × Int32 × Int32 → Option Int32, f_X7_joins_7 (nI f) u (nI (i + 1)) B N (fun x1 x2 x3 => k (x1, x2, x3)) = if f ≤ onesN (i + 1) ∨ y = 0 then k (nI f, u, nI (i + 1 + 1)) else k (nI (onesN (i + 1)), nI (i + 1), nI (i + 1 + 1)) := by
        intro k
        unfold f_X7_joins_7 f_X7_joins_48
        rw [if_neg g1, s_count hv, bn_s, y7]
        simp only [lett_d, bn_s]
        rw [show nI (i + 1) + 1 = nI (i + 1 + 1) from nI_add (i + 1) 1]
        have le : (nI f ≤ nI (onesN (i + 1))) = (f ≤ onesN (i + 1)) := leN (by omega) (by omega)
        by_cases q : f ≤ onesN (i + 1)
        · rw [if_pos (le.mpr q), if_pos (Or.inl q)]
        · rw [if_neg (fun x => q (le.mp x))]
          by_cases r : y = 0
          · rw [if_pos r, if_pos (Or.inr r)]
          · rw [if_neg r, if_neg (fun x => x.elim q r)]
      have b8 : ∀ k : Int32 × Int32 → Option Int32, f_X8_joins_4 u (nI (i + 1)) M (fun x1 x2 => k (x1, x2)) = if f ≤ onesN (i + 1) ∨ y = 0 then k (u, nI (i + 1 + 1)) else k (nI (i + 1), nI (i + 1 + 1)) := by
        intro k
        have t1 : f_X8_joins_37 u (nI (i + 1)) 1 M (fun x1 x2 => k (x1, x2)) = if y = 0 then k (u, nI (i + 1 + 1)) else k (nI (i + 1), nI (i + 1 + 1)) := by
          unfold f_X8_joins_37 f_X8_joins_54 f_X8_joins_55
          rw [if_neg i10, y8, bn_s]
          simp only [lett_d]
          rw [show nI (i + 1) + 1 = nI (i + 1 + 1) from nI_add (i + 1) 1]
        have t0 : f_X8_joins_37 u (nI (i + 1)) 0 M (fun x1 x2 => k (x1, x2)) = k (u, nI (i + 1 + 1)) := by
          unfold f_X8_joins_37 f_X8_joins_54 f_X8_joins_55
          rw [if_pos rfl]
          simp only [lett_d]
          rw [show nI (i + 1) + 1 = nI (i + 1 + 1) from nI_add (i + 1) 1]
        unfold f_X8_joins_4 f_X8_joins_32
        rw [show (4 : Int32) = nI 4 from rfl, gi_n (by omega) (by omega), clN (by omega), if_neg g2, t1, t0]
        rcases hu with ⟨e1, e2⟩ | ⟨q, hq, e1, e2⟩
        · rw [if_pos e1]
          by_cases r : y = 0
          · rw [if_pos r, if_pos (Or.inr r)]
          · rw [if_neg r, if_neg (fun x => x.elim (by omega) r)]
        · rw [if_neg (by rw [e1]; exact neg1 (by omega)), m_ones hv, bn_s, e1, m_ones hq, bn_s, ← e2]
          have le : (nI f ≤ nI (onesN (i + 1))) = (f ≤ onesN (i + 1)) := leN (by omega) (by omega)
          by_cases c : f ≤ onesN (i + 1)
          · rw [if_pos (le.mpr c), if_pos (Or.inl c)]
          · rw [if_neg (fun x => c (le.mp x))]
            by_cases r : y = 0
            · rw [if_pos r, if_pos (Or.inr r)]
            · rw [if_neg r, if_neg (fun x => x.elim c r)]
      left
      by_cases c : f ≤ onesN (i + 1) ∨ y = 0
      · refine ⟨hlt, (nI f, u, nI (i + 1 + 1)), (u, nI (i + 1 + 1)), ⟨f, u, rfl, rfl, hu⟩, fun k => ?_, fun k => ?_⟩
        · exact (b7 k).trans (if_pos c)
        · exact (b8 k).trans (if_pos c)
      · refine ⟨hlt, (nI (onesN (i + 1)), nI (i + 1), nI (i + 1 + 1)), (nI (i + 1), nI (i + 1 + 1)), ⟨_, _, rfl, rfl, Or.inr ⟨i + 1, hv, rfl, rfl⟩⟩, fun k => ?_, fun k => ?_⟩
        · exact (b7 k).trans (if_neg c)
        · exact (b8 k).trans (if_neg c)
    · right
      have e : i + 1 = 2 ^ A.1 5 := by clear hu; omega
      refine ⟨some u, some u, ⟨u, rfl, rfl⟩, fun k => ?_, fun k => ?_⟩
      · show f_X7_joins_7 (nI f) u (nI (i + 1)) B N _ = _
        unfold f_X7_joins_7
        rw [if_pos (by rw [c5, pw, e]; exact Int32.le_refl _)]
      · show f_X8_joins_4 u (nI (i + 1)) M _ = _
        unfold f_X8_joins_4
        rw [show (4 : Int32) = nI 4 from rfl, gi_n (by omega) (by omega), clN (by omega), if_pos (by rw [c4, pw, e]; exact Int32.le_refl _)]
  obtain ⟨r, r1, r2⟩ := key
  exact ⟨r, r1, r2, SR_96 h⟩
end
