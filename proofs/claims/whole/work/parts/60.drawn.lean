/-! PURE: months drawn. -/
def nextL (x : Int64) : Int64 := ((x * (1103515245 : Int64)) + (12345 : Int64)) - ((x * (1103515245 : Int64)) + (12345 : Int64)) / (2147483648 : Int64) * (2147483648 : Int64)
def wetL (w : Int32) (x : Int64) : Prop := 0 ≤ (lg_cmp ((x / (65536 : Int64)) - (x / (65536 : Int64)) / (100 : Int64) * (100 : Int64)) (w).toInt64)
/-- one draw more, for the i-th of the people -/
noncomputable def stepL (w : Int32) (i : Nat) (y : Int64 × Int32) : Int64 × Int32 := (nextL y.1, @ite Int32 (wetL w (nextL y.1)) (Classical.propDecidable _) y.2 (y.2 ||| (1 <<< (nI i &&& 31))))
/-- the draws of one month: the last number, and who goes without -/
noncomputable def drawL (w : Int32) : Nat → Int64 → Int64 × Int32
  | 0, x => (x, 0)
  | n + 1, x => stepL w n (drawL w n x)
theorem lett_i {α β : Type} {e : α} {k : α → β} {r : β} (h : ∀ x, x = e → k x = r) : lett e k = r := h e rfl
theorem s_draw1 {T O : Tw} {w x4 x7 z : Int32} {i n : Nat} {y : Int64} {K28 : Int64 → Int32 → Int32 → Option Tw} {K87 : Int64 → Int32 → Option Tw} (hi : i < n) (hn : n ≤ 6) (h4 : T.1 4 = nI n) : f_X1_drawMonths_28 w x4 y x7 z (nI i) T O K28 K87 = K28 (stepL w i (y, z)).1 (stepL w i (y, z)).2 (nI (i + 1)) := by
  unfold f_X1_drawMonths_28 f_X1_drawMonths_81
  rw [if_neg (by rw [h4, leN (by omega) (by omega)]; omega)]
  refine lett_i (fun y1 hy => ?_)
  have hy' : nextL y = y1 := hy.symm
  unfold stepL
  rw [hy']
  by_cases c : wetL w y1
  · rw [if_pos (show 0 ≤ (lg_cmp ((y1 / (65536 : Int64)) - (y1 / (65536 : Int64)) / (100 : Int64) * (100 : Int64)) (w).toInt64) from c), if_pos c, lett_d, show nI i + 1 = nI (i + 1) from nI_add i 1]
  · rw [if_neg (show ¬ 0 ≤ (lg_cmp ((y1 / (65536 : Int64)) - (y1 / (65536 : Int64)) / (100 : Int64) * (100 : Int64)) (w).toInt64) from c), if_neg c, lett_d, lett_d, show nI i + 1 = nI (i + 1) from nI_add i 1]
theorem m_draw1 {M : Ms} {w x3 x4 x7 z : Int32} {i n : Nat} {y : Int64} {K68 : Int64 → Int32 → Int32 → Option (Int32 × Ms)} {K130 : Int64 → Int32 → Option (Int32 × Ms)} (hi : i < n) (hn : n ≤ 6) (h3 : (M.2.2 0) 3 = nI n) : f_X8_drawn_68 w x3 x4 y x7 z (nI i) M K68 K130 = K68 (stepL w i (y, z)).1 (stepL w i (y, z)).2 (nI (i + 1)) := by
  unfold f_X8_drawn_68 f_X8_drawn_121
  rw [show (3 : Int32) = nI 3 from rfl, gi_n (by omega) (by omega), clN (by omega), h3, if_neg (by rw [leN (by omega) (by omega)]; omega)]
  refine lett_i (fun y1 hy => ?_)
  have hy' : nextL y = y1 := hy.symm
  unfold stepL
  rw [hy']
  by_cases c : wetL w y1
  · rw [if_pos (show 0 ≤ (lg_cmp ((y1 / (65536 : Int64)) - (y1 / (65536 : Int64)) / (100 : Int64) * (100 : Int64)) (w).toInt64) from c), if_pos c, lett_d, lett_d, or_0, show nI i + 1 = nI (i + 1) from nI_add i 1]
  · rw [if_neg (show ¬ 0 ≤ (lg_cmp ((y1 / (65536 : Int64)) - (y1 / (65536 : Int64)) / (100 : Int64) * (100 : Int64)) (w).toInt64) from c), if_neg c, lett_d, lett_d, show nI i + 1 = nI (i + 1) from nI_add i 1]
theorem s_draw {T O : Tw} {w x4 x7 : Int32} {n : Nat} {x : Int64} {K87 : Int64 → Int32 → Option Tw} (hn : n ≤ 6) (h4 : T.1 4 = nI n) : l_X1_drawMonths_28 w x4 x7 T O K87 FU x (nI 0) (nI 0) = K87 (drawL w n x).1 (drawL w n x).2 := by
  unfold l_X1_drawMonths_28
  refine itr_st (fun i => ((drawL w i x).1, (drawL w i x).2, nI i)) _ n ?_ ?_ FU 0 (by omega) (by rw [FU_d]; omega)
  · intro i k hi
    show f_X1_drawMonths_28 w x4 (drawL w i x).1 x7 (drawL w i x).2 (nI i) T O (fun x5 x8 x9 => k (x5, x8, x9)) _ = _
    rw [s_draw1 hi hn h4]
    rfl
  · intro k
    show f_X1_drawMonths_28 w x4 (drawL w n x).1 x7 (drawL w n x).2 (nI n) T O (fun x5 x8 x9 => k (x5, x8, x9)) _ = _
    unfold f_X1_drawMonths_28
    rw [if_pos (by rw [h4]; exact Int32.le_refl _)]
theorem m_draw {M : Ms} {w x3 x4 x7 : Int32} {n : Nat} {x : Int64} {K130 : Int64 → Int32 → Option (Int32 × Ms)} (hn : n ≤ 6) (h3 : (M.2.2 0) 3 = nI n) : l_X8_drawn_68 w x3 x4 x7 M K130 FU x (nI 0) (nI 0) = K130 (drawL w n x).1 (drawL w n x).2 := by
  unfold l_X8_drawn_68
  refine itr_st (fun i => ((drawL w i x).1, (drawL w i x).2, nI i)) _ n ?_ ?_ FU 0 (by omega) (by rw [FU_d]; omega)
  · intro i k hi
    show f_X8_drawn_68 w x3 x4 (drawL w i x).1 x7 (drawL w i x).2 (nI i) M (fun x5 x8 x9 => k (x5, x8, x9)) _ = _
    rw [m_draw1 hi hn h3]
    rfl
  · intro k
    show f_X8_drawn_68 w x3 x4 (drawL w n x).1 x7 (drawL w n x).2 (nI n) M (fun x5 x8 x9 => k (x5, x8, x9)) _ = _
    unfold f_X8_drawn_68
    rw [show (3 : Int32) = nI 3 from rfl, gi_n (by omega) (by omega), clN (by omega), h3, if_pos (Int32.le_refl _)]
section
variable {b : Nat} {B : Nat → Int32} {N : Tw} {P : Ps} {I1 : Int32} {T1 : Tw} {P1 : Ps} {I2 : Int32} {T2 : Tw} {P2 : Ps} {X : Tx} {K : Ch} {M : Ms}
theorem draw_both {A : AT} {O R0 : Tw} {t : Nat → Int32} {w x4 : Int32} {x : Int64} {m : Nat} (rt : rT A R0) (rm : rM A t) (oa : okA b A) (hb : b < 100000) (hm : m ≤ 60) (h3 : (M.2.2 0) 3 = nI (A.1 4)) : ∃ R' t' A', l_X1_drawMonths_15 w (nI m) O (fun Nz => f_X1_drawMonths_102 Nz O) FU x (nI 0) R0 = some R' ∧ l_X8_drawn_56 w (nI m) x4 (fun Mz => f_X8_drawn_146 x4 Mz) FU x (nI 0) (t1N M t) = f_X8_drawn_146 x4 (t1N M t') ∧ rT A' R' ∧ rM A' t' ∧ okA (b + 480) A' ∧ A'.1 5 = A.1 5 := by
  unfold l_X1_drawMonths_15 l_X8_drawn_56
  refine itr_two (fun i z v => ∃ y N' t' A', z = (y, nI i, N') ∧ v = (y, nI i, t1N M t') ∧ rT A' N' ∧ rM A' t' ∧ okA (b + 8 * i) A' ∧ A'.1 5 = A.1 5 ∧ A'.1 4 = A.1 4) (fun r s => ∃ R' t' A', r = some R' ∧ s = f_X8_drawn_146 x4 (t1N M t') ∧ rT A' R' ∧ rM A' t' ∧ okA (b + 480) A' ∧ A'.1 5 = A.1 5) m ?_ FU 0 _ _ ⟨x, R0, t, A, rfl, rfl, rt, rm, oa, rfl, rfl⟩ (Nat.zero_le _) (by rw [FU_d]; omega)
  rintro i z v hi ⟨y, N', t', A', rfl, rfl, rt', rm', oa', e5, e4⟩
  by_cases hlt : i < m
  · left
    have a4 := oa'.2.2.2.2.1
    obtain ⟨T3, l1, l2⟩ := s_liveMonth rt' oa' (by omega) (dry_bit (drawL w (A'.1 4) y).2)
    obtain ⟨r3, m1, _, m3⟩ := m_month rm' oa' (by omega) (dry_bit (drawL w (A'.1 4) y).2)
    refine ⟨hlt, ((drawL w (A'.1 4) y).1, nI (i + 1), T3), ((drawL w (A'.1 4) y).1, nI (i + 1), t1N M r3.2), ⟨_, T3, r3.2, _, rfl, rfl, l2, m3, okA_mono (okA_monthN oa') (by omega), ?_, ?_⟩, fun k => ?_, fun k => ?_⟩
    · rw [monthN_1 (by omega) (by omega) (by omega)]; exact e5
    · rw [monthN_1 (by omega) (by omega) (by omega)]; exact e4
    · show f_X1_drawMonths_15 w (nI m) y (nI i) N' O _ _ = _
      unfold f_X1_drawMonths_15
      rw [if_neg (by rw [leN (by omega) (by omega)]; omega)]
      simp only [lett_d]
      rw [show (0 : Int32) = nI 0 from rfl, s_draw (n := A'.1 4) a4 (rt'.1 4 (by omega))]
      unfold f_X1_drawMonths_87
      rw [l1]
      simp only [bn_s, lett_d]
      rw [show nI i + 1 = nI (i + 1) from nI_add i 1]
    · show f_X8_drawn_56 w (nI m) x4 y (nI i) (t1N M t') _ _ = _
      unfold f_X8_drawn_56
      rw [if_neg (by rw [leN (by omega) (by omega)]; omega)]
      simp only [lett_d]
      rw [show (0 : Int32) = nI 0 from rfl, m_draw (n := A'.1 4) a4 (by rw [t1N_0, e4]; exact h3)]
      unfold f_X8_drawn_130
      rw [t1N_1, m1]
      simp only [bn_s, lett_d, t1N_t]
      rw [show nI i + 1 = nI (i + 1) from nI_add i 1]
  · right
    have e : i = m := by omega
    subst e
    refine ⟨some N', f_X8_drawn_146 x4 (t1N M t'), ⟨N', t', A', rfl, rfl, rt', rm', okA_mono oa' (by omega), e5⟩, fun k => ?_, fun k => ?_⟩
    · show f_X1_drawMonths_15 w (nI i) y (nI i) N' O _ _ = _
      unfold f_X1_drawMonths_15
      rw [if_pos (Int32.le_refl _)]
      rfl
    · show f_X8_drawn_56 w (nI i) x4 y (nI i) (t1N M t') _ _ = _
      unfold f_X8_drawn_56
      rw [if_pos (Int32.le_refl _)]
theorem q_drawn (h : SR b B N P I1 T1 P1 I2 T2 P2 X K M) (hb : b < 100000) (R : Tw) (x y z w : Int32) : ∃ r B' R' M', f_X7_drawn x y z w B N R = some (r, B', R') ∧ f_X8_drawn x y z w M = some (r, M') ∧ SR (b + 96) B' N P I1 T1 P1 I2 T2 P2 X K M' := by
  obtain ⟨A, H, rt, rm, oa, rp, rmp, op⟩ := h.2.1
  unfold f_X7_drawn f_X8_drawn f_X7_drawn_45 f_X8_drawn_40 f_X7_drawn_46
  rcases in_cases x 0 999999 (by omega) (by omega) with ⟨i, _, hi, e, e8, e7⟩ | ⟨e8, e7⟩
  · rw [show f_X7_within x 0 999999 = some 1 from e7, show f_X8_in x 0 999999 = some 1 from e8]
    rcases in_cases y 0 100 (by omega) (by omega) with ⟨j, _, hj, f, f8, f7⟩ | ⟨f8, f7⟩
    · rw [show f_X7_within y 0 100 = some 1 from f7, show f_X8_in y 0 100 = some 1 from f8]
      rcases in_cases z 0 60 (by omega) (by omega) with ⟨m, _, hm, g, g8, g7⟩ | ⟨g8, g7⟩
      · rw [show f_X7_within z 0 60 = some 1 from g7, show f_X8_in z 0 60 = some 1 from g8]
        rcases in_cases w 0 1 (by omega) (by omega) with ⟨q, _, hq, d, d8, d7⟩ | ⟨d8, d7⟩
        · rw [show f_X7_within w 0 1 = some 1 from d7, show f_X8_in w 0 1 = some 1 from d8]
          simp only [bn_s, if_neg i10]
          obtain ⟨t, et, rmt, _⟩ := m_tries rm
          obtain ⟨T0, e0, h0⟩ := s_copy R N
          have hd : A.1 4 ≤ 6 ∧ A.1 5 ≤ 8 ∧ A.1 6 ≤ 8 := ⟨oa.2.2.2.2.1, oa.2.2.2.2.2.1, oa.2.2.2.2.2.2.1⟩
          have r0 : rT (fixR A t) T0 := rT_fix (rT_cp rt h0 hd)
          have h3 : (M.2.2 0) 3 = nI ((fixR A t).1 4) := rm.2.1 4 (by omega)
          obtain ⟨R', t', A', s1, s2, rt', rm', oa', e5⟩ := draw_both (M := M) (O := N) (w := y) (x4 := w) (x := x.toInt64) r0 rmt (okA_fix oa) hb hm h3
          have h4 : (M.2.2 0) 4 = nI (A'.1 5) := by rw [e5]; exact rm.2.1 5 (by omega)
          unfold f_X1_drawMonths
          rw [e0, et]
          simp only [bn_s, lett_d]
          subst g
          rw [show (0 : Int32) = nI 0 from rfl, s1, s2]
          unfold f_X8_drawn_146 f_X7_drawn_86 f_X8_drawn_160
          simp only [bn_s]
          have c1 := s_howMany rt' oa' (how := 1) (by omega)
          have c2 := s_howMany rt' oa' (how := 2) (by omega)
          have m1 := m_many rm' oa' (how := 1) (by omega) (Nat.le_refl _)
          have m2 := m_many rm' oa' (how := 2) (by omega) (Nat.le_refl _)
          rw [show (4 : Int32) = nI 4 from rfl, gi_n (by omega) (by omega), clN (by omega), t1N_0, t1N_1, h4, show (1 : Int32) = nI 1 from rfl, show (2 : Int32) = nI 2 from rfl, c1, c2, m1, m2]
          simp only [bn_s]
          by_cases qz : w = 0
          · rw [if_pos qz, if_pos (show w = nI 0 from qz)]; exact ⟨_, _, _, _, rfl, rfl, SR_t1 h t'⟩
          · rw [if_neg qz, if_neg (show ¬ w = nI 0 from qz)]; exact ⟨_, _, _, _, rfl, rfl, SR_t1 h t'⟩
        · rw [show f_X7_within w 0 1 = some 0 from d7, show f_X8_in w 0 1 = some 0 from d8]
          simp only [bn_s, if_true, if_neg i10, bad7, bad8]
          exact ⟨_, _, _, _, rfl, rfl, SR_bad h⟩
      · rw [show f_X7_within z 0 60 = some 0 from g7, show f_X8_in z 0 60 = some 0 from g8]
        simp only [bn_s, if_true, if_neg i10, bad7, bad8]
        exact ⟨_, _, _, _, rfl, rfl, SR_bad h⟩
    · rw [show f_X7_within y 0 100 = some 0 from f7, show f_X8_in y 0 100 = some 0 from f8]
      simp only [bn_s, if_true, if_neg i10, bad7, bad8]
      exact ⟨_, _, _, _, rfl, rfl, SR_bad h⟩
  · rw [show f_X7_within x 0 999999 = some 0 from e7, show f_X8_in x 0 999999 = some 0 from e8]
    simp only [bn_s, if_true, if_neg i10, bad7, bad8]
    exact ⟨_, _, _, _, rfl, rfl, SR_bad h⟩
end
