/-! PURE: the digest. -/
def mx (h : Int64) (v : Int32) : Int64 := ((31 : Int64) * h) + (v).toInt64
def mixL (f : Nat → Int32) : Nat → Int64 → Int64
  | 0, h => h
  | n + 1, h => mx (mixL f n h) (f n)
theorem mixL_congr {f g : Nat → Int32} {h : Int64} : ∀ n, (∀ k, k < n → f k = g k) → mixL f n h = mixL g n h
  | 0, _ => rfl
  | n + 1, e => by
    show mx (mixL f n h) (f n) = mx (mixL g n h) (g n)
    rw [mixL_congr n (fun k hk => e k (by omega)), e n (by omega)]
theorem lett_x {α β : Type} (e : α) (k : α → β) : lett e k = k e := rfl
theorem m_mixed {M : Ms} {s n : Nat} {h : Int64} (hs : s + n ≤ 362) : f_X8_mixed h (nI s) (nI n) M = some (mixL (fun k => M.2.2 0 (s + k)) n h) := by
  unfold f_X8_mixed l_X8_mixed_6
  have start : (h, nI s) = (fun i => (mixL (fun k => M.2.2 0 (s + k)) i h, nI (s + i))) 0 := rfl
  rw [start]
  refine itr_st (fun i => (mixL (fun k => M.2.2 0 (s + k)) i h, nI (s + i))) _ n ?_ ?_ FU 0 (by omega) (by rw [FU_d]; omega)
  · intro i k hi
    show f_X8_mixed_6 (nI s) (nI n) (mixL (fun k => M.2.2 0 (s + k)) i h) (nI (s + i)) M (fun x5 x7 => k (x5, x7)) = k (mx (mixL (fun k => M.2.2 0 (s + k)) i h) (M.2.2 0 (s + i)), nI (s + i + 1))
    generalize mixL (fun k => M.2.2 0 (s + k)) i h = y
    unfold f_X8_mixed_6
    rw [if_neg (by rw [nI_add, leN (by omega) (by omega)]; omega), gi_n (by omega) (by omega), clN (by omega)]
    refine lett_i (fun y1 hy => ?_)
    rw [lett_x, show nI (s + i) + 1 = nI (s + i + 1) from nI_add (s + i) 1, hy]
    rfl
  · intro k
    show f_X8_mixed_6 (nI s) (nI n) (mixL (fun k => M.2.2 0 (s + k)) n h) (nI (s + n)) M (fun x5 x7 => k (x5, x7)) = _
    unfold f_X8_mixed_6
    rw [if_pos (by rw [nI_add]; exact Int32.le_refl _)]
/-- rows of a town, w numbers each, beginning at row r -/
def gT (T : Tw) (r w : Nat) (k : Nat) : Int32 := T.2 (r + k % w) (k / w)
theorem s_mix5 {T : Tw} {n : Nat} {h : Int64} {K65 : Int64 → Option Int64} (hn : n ≤ 6) (h4 : T.1 4 = nI n) : l_X5_mixInto_5 T K65 FU h (nI 0) = K65 (mixL (gT T 0 3) (3 * n) h) := by
  unfold l_X5_mixInto_5
  refine itr_st (fun i => (mixL (gT T 0 3) (3 * i) h, nI i)) _ n ?_ ?_ FU 0 (by omega) (by rw [FU_d]; omega)
  · intro i k hi
    show f_X5_mixInto_5 (mixL (gT T 0 3) (3 * i) h) (nI i) T (fun x3 x5 => k (x3, x5)) _ = k (mx (mx (mx (mixL (gT T 0 3) (3 * i) h) (gT T 0 3 (3 * i))) (gT T 0 3 (3 * i + 1))) (gT T 0 3 (3 * i + 2)), nI (i + 1))
    have e0 : gT T 0 3 (3 * i) = T.2 0 i := by unfold gT; rw [show 0 + 3 * i % 3 = 0 by omega, show 3 * i / 3 = i by omega]
    have e1 : gT T 0 3 (3 * i + 1) = T.2 1 i := by unfold gT; rw [show 0 + (3 * i + 1) % 3 = 1 by omega, show (3 * i + 1) / 3 = i by omega]
    have e2 : gT T 0 3 (3 * i + 2) = T.2 2 i := by unfold gT; rw [show 0 + (3 * i + 2) % 3 = 2 by omega, show (3 * i + 2) / 3 = i by omega]
    rw [e0, e1, e2]
    generalize mixL (gT T 0 3) (3 * i) h = y
    unfold f_X5_mixInto_5
    rw [if_neg (by rw [h4, leN (by omega) (by omega)]; omega), gi_n (by omega) (by omega), clN (by omega)]
    refine lett_i (fun y1 hy1 => ?_)
    rw [gi_n (by omega) (by omega)]
    refine lett_i (fun y2 hy2 => ?_)
    rw [gi_n (by omega) (by omega)]
    refine lett_i (fun y3 hy3 => ?_)
    rw [lett_x, show nI i + 1 = nI (i + 1) from nI_add i 1, hy3, hy2, hy1]
    rfl
  · intro k
    show f_X5_mixInto_5 (mixL (gT T 0 3) (3 * n) h) (nI n) T (fun x3 x5 => k (x3, x5)) _ = _
    unfold f_X5_mixInto_5
    rw [if_pos (by rw [h4]; exact Int32.le_refl _)]
theorem s_mix68 {T : Tw} {n : Nat} {h : Int64} {K158 : Int64 → Option Int64} (hn : n ≤ 8) (h5 : T.1 5 = nI n) : l_X5_mixInto_68 T K158 FU h (nI 0) = K158 (mixL (gT T 3 5) (5 * n) h) := by
  unfold l_X5_mixInto_68
  refine itr_st (fun i => (mixL (gT T 3 5) (5 * i) h, nI i)) _ n ?_ ?_ FU 0 (by omega) (by rw [FU_d]; omega)
  · intro i k hi
    show f_X5_mixInto_68 (mixL (gT T 3 5) (5 * i) h) (nI i) T (fun x3 x5 => k (x3, x5)) _ = k (mx (mx (mx (mx (mx (mixL (gT T 3 5) (5 * i) h) (gT T 3 5 (5 * i))) (gT T 3 5 (5 * i + 1))) (gT T 3 5 (5 * i + 2))) (gT T 3 5 (5 * i + 3))) (gT T 3 5 (5 * i + 4)), nI (i + 1))
    have e0 : gT T 3 5 (5 * i) = T.2 3 i := by unfold gT; rw [show 3 + 5 * i % 5 = 3 by omega, show 5 * i / 5 = i by omega]
    have e1 : gT T 3 5 (5 * i + 1) = T.2 4 i := by unfold gT; rw [show 3 + (5 * i + 1) % 5 = 4 by omega, show (5 * i + 1) / 5 = i by omega]
    have e2 : gT T 3 5 (5 * i + 2) = T.2 5 i := by unfold gT; rw [show 3 + (5 * i + 2) % 5 = 5 by omega, show (5 * i + 2) / 5 = i by omega]
    have e3 : gT T 3 5 (5 * i + 3) = T.2 6 i := by unfold gT; rw [show 3 + (5 * i + 3) % 5 = 6 by omega, show (5 * i + 3) / 5 = i by omega]
    have e4 : gT T 3 5 (5 * i + 4) = T.2 7 i := by unfold gT; rw [show 3 + (5 * i + 4) % 5 = 7 by omega, show (5 * i + 4) / 5 = i by omega]
    rw [e0, e1, e2, e3, e4]
    generalize mixL (gT T 3 5) (5 * i) h = y
    unfold f_X5_mixInto_68
    rw [if_neg (by rw [h5, leN (by omega) (by omega)]; omega), gi_n (by omega) (by omega), clN (by omega)]
    refine lett_i (fun y1 hy1 => ?_)
    rw [gi_n (by omega) (by omega)]
    refine lett_i (fun y2 hy2 => ?_)
    rw [gi_n (by omega) (by omega)]
    refine lett_i (fun y3 hy3 => ?_)
    rw [gi_n (by omega) (by omega)]
    refine lett_i (fun y4 hy4 => ?_)
    rw [gi_n (by omega) (by omega)]
    refine lett_i (fun y5 hy5 => ?_)
    rw [lett_x, show nI i + 1 = nI (i + 1) from nI_add i 1, hy5, hy4, hy3, hy2, hy1]
    rfl
  · intro k
    show f_X5_mixInto_68 (mixL (gT T 3 5) (5 * n) h) (nI n) T (fun x3 x5 => k (x3, x5)) _ = _
    unfold f_X5_mixInto_68
    rw [if_pos (by rw [h5]; exact Int32.le_refl _)]
theorem s_mix161 {T : Tw} {n : Nat} {h : Int64} (hn : n ≤ 8) (h6 : T.1 6 = nI n) : l_X5_mixInto_161 T FU h (nI 0) = some (mixL (gT T 8 2) (2 * n) h) := by
  unfold l_X5_mixInto_161
  refine itr_st (fun i => (mixL (gT T 8 2) (2 * i) h, nI i)) _ n ?_ ?_ FU 0 (by omega) (by rw [FU_d]; omega)
  · intro i k hi
    show f_X5_mixInto_161 (mixL (gT T 8 2) (2 * i) h) (nI i) T (fun x3 x5 => k (x3, x5)) = k (mx (mx (mixL (gT T 8 2) (2 * i) h) (gT T 8 2 (2 * i))) (gT T 8 2 (2 * i + 1)), nI (i + 1))
    have e0 : gT T 8 2 (2 * i) = T.2 8 i := by unfold gT; rw [show 8 + 2 * i % 2 = 8 by omega, show 2 * i / 2 = i by omega]
    have e1 : gT T 8 2 (2 * i + 1) = T.2 9 i := by unfold gT; rw [show 8 + (2 * i + 1) % 2 = 9 by omega, show (2 * i + 1) / 2 = i by omega]
    rw [e0, e1]
    generalize mixL (gT T 8 2) (2 * i) h = y
    unfold f_X5_mixInto_161
    rw [if_neg (by rw [h6, leN (by omega) (by omega)]; omega), gi_n (by omega) (by omega), clN (by omega)]
    refine lett_i (fun y1 hy1 => ?_)
    rw [gi_n (by omega) (by omega)]
    refine lett_i (fun y2 hy2 => ?_)
    rw [lett_x, show nI i + 1 = nI (i + 1) from nI_add i 1, hy2, hy1]
    rfl
  · intro k
    show f_X5_mixInto_161 (mixL (gT T 8 2) (2 * n) h) (nI n) T (fun x3 x5 => k (x3, x5)) = _
    unfold f_X5_mixInto_161
    rw [if_pos (by rw [h6]; exact Int32.le_refl _)]
theorem mix_both {A : AT} {T : Tw} {M : Ms} {b : Nat} (rt : rT A T) (rm : rM A (M.2.2 0)) (oa : okA b A) (h : Int64) : ∃ y1 y2 y3, f_X5_mixInto h T = some y3 ∧ f_X8_mixed h (nI 8) (nI (3 * A.1 4)) M = some y1 ∧ f_X8_mixed y1 (nI 26) (nI (5 * A.1 5)) M = some y2 ∧ f_X8_mixed y2 (nI 66) (nI (2 * A.1 6)) M = some y3 := by
  obtain ⟨a0, a1, a2, a3, a4, a5, a6, a7, a8, a9⟩ := oa
  have f1 : ∀ y, mixL (gT T 0 3) (3 * A.1 4) y = mixL (fun k => M.2.2 0 (8 + k)) (3 * A.1 4) y := fun y => mixL_congr _ (fun k hk => by
    have e := rt.2.1 (k % 3) (by omega) (k / 3) (by omega)
    have d := rm.2.2.1 (k % 3) (by omega) (k / 3) (by omega)
    unfold gT
    rw [show 0 + k % 3 = k % 3 by omega, e, ← d]
    exact congrArg _ (by omega))
  have f2 : ∀ y, mixL (gT T 3 5) (5 * A.1 5) y = mixL (fun k => M.2.2 0 (26 + k)) (5 * A.1 5) y := fun y => mixL_congr _ (fun k hk => by
    have e := rt.2.2.1 (3 + k % 5) (by omega) (by omega) (k / 5) (by omega)
    have d := rm.2.2.2.1 (k % 5) (by omega) (k / 5) (by omega)
    unfold gT
    rw [e, ← d]
    exact congrArg _ (by omega))
  have f3 : ∀ y, mixL (gT T 8 2) (2 * A.1 6) y = mixL (fun k => M.2.2 0 (66 + k)) (2 * A.1 6) y := fun y => mixL_congr _ (fun k hk => by
    have e := rt.2.2.2 (8 + k % 2) (by omega) (by omega) (k / 2) (by omega)
    have d := rm.2.2.2.2.1 (k % 2) (by omega) (k / 2) (by omega)
    unfold gT
    rw [e, ← d]
    exact congrArg _ (by omega))
  refine ⟨_, _, _, ?_, m_mixed (by omega), m_mixed (by omega), m_mixed (by omega)⟩
  unfold f_X5_mixInto
  rw [lett_x, show (0 : Int32) = nI 0 from rfl, s_mix5 a4 (rt.1 4 (by omega))]
  unfold f_X5_mixInto_65
  rw [lett_x, show (0 : Int32) = nI 0 from rfl, s_mix68 a5 (rt.1 5 (by omega))]
  unfold f_X5_mixInto_158
  rw [lett_x, show (0 : Int32) = nI 0 from rfl, s_mix161 a6 (rt.1 6 (by omega)), f1, f2, f3]
section
variable {b : Nat} {B : Nat → Int32} {N : Tw} {P : Ps} {I1 : Int32} {T1 : Tw} {P1 : Ps} {I2 : Int32} {T2 : Tw} {P2 : Ps} {X : Tx} {K : Ch} {M : Ms}
theorem q_digest (h : SR b B N P I1 T1 P1 I2 T2 P2 X K M) : ∃ r, f_X7_digest B N P X K = some r ∧ f_X8_digest M = some r ∧ SR (b + 96) B N P I1 T1 P1 I2 T2 P2 X K M := by
  obtain ⟨A, H, rt, rm, oa, rp, rmp, op⟩ := h.2.1
  have ks := h.2.2.2.2.2
  obtain ⟨a0, a1, a2, a3, a4, a5, a6, _⟩ := id oa
  have c3 : (M.2.2 0) 3 = nI (A.1 4) := rm.2.1 4 (by omega)
  have c4 : (M.2.2 0) 4 = nI (A.1 5) := rm.2.1 5 (by omega)
  have c5 : (M.2.2 0) 5 = nI (A.1 6) := rm.2.1 6 (by omega)
  have fin : ∀ y, ∃ r, f_X7_digest_31 y B N P X K = some r ∧ f_X8_digest_31 y M = some r := by
    intro y
    obtain ⟨y1, y2, y3, m0, m1, m2, m3⟩ := mix_both rt rm oa y
    unfold f_X7_digest_31 f_X8_digest_31
    rw [m0, show (3 : Int32) = nI 3 from rfl, show (4 : Int32) = nI 4 from rfl, show (5 : Int32) = nI 5 from rfl, show (2 : Int32) = nI 2 from rfl, show (8 : Int32) = nI 8 from rfl, show (26 : Int32) = nI 26 from rfl, show (66 : Int32) = nI 66 from rfl, gi_n (by omega) (by omega), clN (by omega), clN (by omega), clN (by omega), c3, c4, c5, pk_mul, pk_mul, pk_mul, m1]
    rw [bn_s, bn_s, gi_n (by omega) (by omega), m2, bn_s, gi_n (by omega) (by omega), m3, bn_s, lett_x, ks.1, ks.2]
    exact ⟨_, rfl, rfl⟩
  have key := itr_two (B := fun (k : Int64 × Int32 → Option Int64) (z : Int64 × Int32) => f_X7_digest_6 z.1 z.2 B N P X K (fun x1 x3 => k (x1, x3)) (fun x1 => f_X7_digest_31 x1 B N P X K)) (C := fun (k : Int64 × Int32 → Option Int64) (z : Int64 × Int32) => f_X8_digest_6 z.1 z.2 M (fun x1 x3 => k (x1, x3)) (fun x1 => f_X8_digest_31 x1 M))
    (fun i z w => ∃ y, z = (y, nI i) ∧ w = (y, nI i)) (fun r s => ∃ v, r = some v ∧ s = some v) 9 ?_ FU 0 (839, nI 0) (839, nI 0) ⟨839, rfl, rfl⟩ (Nat.zero_le _) (by rw [FU_d]; omega)
  · obtain ⟨v, e1, e2⟩ := key
    exact ⟨v, e1, e2, SR_96 h⟩
  · rintro i z w hi ⟨y, rfl, rfl⟩
    by_cases hlt : i < 9
    · left
      obtain ⟨c, _, k7, k8⟩ := count_eq h i (by omega)
      refine ⟨hlt, (mx y (nI c), nI (i + 1)), (mx y (nI c), nI (i + 1)), ⟨_, rfl, rfl⟩, fun k => ?_, fun k => ?_⟩
      · show f_X7_digest_6 y (nI i) B N P X K _ _ = _
        unfold f_X7_digest_6
        rw [if_neg (by rw [show (8 : Int32) = nI 8 from rfl, ltN (by omega) (by omega)]; omega), k7, bn_s]
        refine lett_i (fun y1 hy1 => ?_)
        rw [lett_x, show nI i + 1 = nI (i + 1) from nI_add i 1, hy1]
        rfl
      · show f_X8_digest_6 y (nI i) M _ _ = _
        unfold f_X8_digest_6
        rw [if_neg (by rw [show (9 : Int32) = nI 9 from rfl, leN (by omega) (by omega)]; omega), k8, bn_s]
        refine lett_i (fun y1 hy1 => ?_)
        rw [lett_x, show nI i + 1 = nI (i + 1) from nI_add i 1, hy1]
        rfl
    · right
      have e : i = 9 := by omega
      subst e
      obtain ⟨r, r1, r2⟩ := fin y
      refine ⟨some r, some r, ⟨r, rfl, rfl⟩, fun k => ?_, fun k => ?_⟩
      · show f_X7_digest_6 y (nI 9) B N P X K _ _ = _
        unfold f_X7_digest_6
        rw [if_pos (by rw [show (8 : Int32) = nI 8 from rfl, ltN (by omega) (by omega)]; omega)]
        exact r1
      · show f_X8_digest_6 y (nI 9) M _ _ = _
        unfold f_X8_digest_6
        rw [if_pos (by rw [show (9 : Int32) = nI 9 from rfl, leN (by omega) (by omega)]; omega)]
        exact r2
end
