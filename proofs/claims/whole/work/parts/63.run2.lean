/-! PURE: a run, asked. -/
theorem best_both {A : AT} {T : Tw} {M : Ms} {b : Nat} (rt : rT A T) (rm : rM A (M.2.2 0)) (oa : okA b A) : ∃ x, f_X5_paidInBestOrder T = some x ∧ f_X8_ordered M = some x := by
  have a5 := oa.2.2.2.2.2.1
  have c5 := rt.1 5 (by omega)
  have c4 : (M.2.2 0) 4 = nI (A.1 5) := rm.2.1 5 (by omega)
  have c0 : (M.2.2 0) 0 = T.1 0 := by rw [rt.1 0 (by omega)]; exact rm.2.1 0 (by omega)
  have neg1 : ∀ q, q < 100 → ¬ nI q = (-1 : Int32) := by
    intro q hq
    have key : ∀ q : Fin 100, ¬ nI q.val = (-1 : Int32) := by decide +kernel
    exact key ⟨q, hq⟩
  unfold f_X5_paidInBestOrder f_X8_ordered
  rw [lett_d, lett_d, lett_d, show (0 : Int32) = nI 0 from rfl, gi_n (by omega) (by omega), lett_d, lett_d, lett_d, lett_d, clN (by omega), c0]
  unfold l_X5_paidInBestOrder_12 l_X8_ordered_14
  refine itr_two (fun i z w => ∃ r d n, z = (r, d, n, nI i) ∧ w = (r, d, n, nI i)) (fun r s => ∃ x, r = some x ∧ s = some x) (A.1 5) ?_ FU 0 _ _ ⟨T.1 0, nI 0, nI 0, rfl, rfl⟩ (Nat.zero_le _) (by rw [FU_d]; omega)
  rintro i z w hi ⟨r, d, n, rfl, rfl⟩
  by_cases hlt : i < A.1 5
  · have g1 : ¬ T.1 5 ≤ nI i := by rw [c5, leN (by omega) (by omega)]; omega
    have g2 : ¬ (M.2.2 0) 4 ≤ nI i := by rw [c4, leN (by omega) (by omega)]; omega
    obtain ⟨x, l1, _, hx⟩ := least_both (T := T) (M := M) (d := d) (r := r) (x3 := n) (x4 := nI i) (K108 := fun _ => none) rt rm oa
    have l2 : ∀ K108 : Int32 → Option Int32, l_X8_ordered_31 r d n (nI i) M K108 FU (-1) (nI 0) = K108 x := by
      intro K108
      obtain ⟨x', l1', l2', _⟩ := least_both (T := T) (M := M) (d := d) (r := r) (x3 := n) (x4 := nI i) (K108 := K108) rt rm oa
      rw [l1] at l1'
      rw [l2', Option.some.inj l1']
    have b7 : ∀ k : Int32 × Int32 × Int32 × Int32 → Option Int32, f_X5_paidInBestOrder_12 r d n (nI i) T (fun x1 x2 x3 x4 => k (x1, x2, x3, x4)) = (if x = -1 then some n else bn (f_X5_wantOf x T) fun r37 => if r37 ≤ r then (bn (f_X5_wantOf x T) fun r50 => k (r - r50, d ||| (1 <<< (x &&& 31)), n + 1, nI i + 1)) else some n) := by
      intro k
      unfold f_X5_paidInBestOrder_12
      rw [if_neg g1, l1, bn_s]
      simp only [lett_d]
    have b8 : ∀ k : Int32 × Int32 × Int32 × Int32 → Option Int32, f_X8_ordered_14 r d n (nI i) M (fun x1 x2 x3 x4 => k (x1, x2, x3, x4)) = (if x = -1 then some n else bn (f_X8_wants x M) fun r37 => if r37 ≤ r then (bn (f_X8_wants x M) fun r50 => k (r - r50, d ||| (1 <<< (x &&& 31)), n + 1, nI i + 1)) else some n) := by
      intro k
      unfold f_X8_ordered_14
      rw [show (4 : Int32) = nI 4 from rfl, gi_n (by omega) (by omega), clN (by omega), if_neg g2, lett_d, lett_d, show (0 : Int32) = nI 0 from rfl, l2]
      unfold f_X8_ordered_108
      simp only [lett_d]
    rcases hx with hx | ⟨q, hq, hx⟩
    · right
      refine ⟨some n, some n, ⟨n, rfl, rfl⟩, fun k => ?_, fun k => ?_⟩
      · refine (b7 k).trans ?_
        rw [if_pos hx]
      · refine (b8 k).trans ?_
        rw [if_pos hx]
    · have hx1 : ¬ x = -1 := by rw [hx]; exact neg1 q (by omega)
      have sw : f_X5_wantOf x T = some (nI (wantN A q)) := by rw [hx]; exact s_want rt oa hq
      have mw : f_X8_wants x M = some (nI (wantN A q)) := by rw [hx]; exact m_want rm oa hq
      by_cases hc : nI (wantN A q) ≤ r
      · left
        refine ⟨hlt, (r - nI (wantN A q), d ||| (1 <<< (x &&& 31)), n + 1, nI (i + 1)), (r - nI (wantN A q), d ||| (1 <<< (x &&& 31)), n + 1, nI (i + 1)), ⟨_, _, _, rfl, rfl⟩, fun k => ?_, fun k => ?_⟩
        · refine (b7 k).trans ?_
          rw [if_neg hx1, sw, bn_s, if_pos hc, bn_s, show nI i + 1 = nI (i + 1) from nI_add i 1]
        · refine (b8 k).trans ?_
          rw [if_neg hx1, mw, bn_s, if_pos hc, bn_s, show nI i + 1 = nI (i + 1) from nI_add i 1]
      · right
        refine ⟨some n, some n, ⟨n, rfl, rfl⟩, fun k => ?_, fun k => ?_⟩
        · refine (b7 k).trans ?_
          rw [if_neg hx1, sw, bn_s, if_neg hc]
        · refine (b8 k).trans ?_
          rw [if_neg hx1, mw, bn_s, if_neg hc]
  · right
    have e : i = A.1 5 := by omega
    subst e
    refine ⟨some n, some n, ⟨n, rfl, rfl⟩, fun k => ?_, fun k => ?_⟩
    · show f_X5_paidInBestOrder_12 r d n (nI (A.1 5)) T _ = _
      unfold f_X5_paidInBestOrder_12
      rw [c5, if_pos (Int32.le_refl _)]
    · show f_X8_ordered_14 r d n (nI (A.1 5)) M _ = _
      unfold f_X8_ordered_14
      rw [show (4 : Int32) = nI 4 from rfl, gi_n (by omega) (by omega), clN (by omega), c4, if_pos (Int32.le_refl _)]
section
variable {b : Nat} {B : Nat → Int32} {N : Tw} {P : Ps} {I1 : Int32} {T1 : Tw} {P1 : Ps} {I2 : Int32} {T2 : Tw} {P2 : Ps} {X : Tx} {K : Ch} {M : Ms}
theorem q_run (h : SR b B N P I1 T1 P1 I2 T2 P2 X K M) (x : Int32) : ∃ r B' M', f_X7_run x B N = some (r, B') ∧ f_X8_run x M = some (r, M') ∧ SR (b + 96) B' N P I1 T1 P1 I2 T2 P2 X K M' := by
  obtain ⟨A, H, rt, rm, oa, rp, rmp, op⟩ := h.2.1
  unfold f_X7_run f_X8_run
  rcases sw_cases x 3 (by omega) with ⟨j, hj, e, e1⟩ | ⟨e1, hn⟩
  · rw [show f_X8_in x 0 3 = some 1 from e1]
    subst e
    simp only [bn_s, if_neg i10]
    have hj' : j = 0 ∨ j = 1 ∨ j = 2 ∨ j = 3 := by omega
    rcases hj' with q | q | q | q
    · subst q
      obtain ⟨M', m1, m2, m3, m4, m5⟩ := m_runs rm oa
      rw [if_pos (show nI 0 = 0 from rfl), if_neg (show ¬ nI 0 = 2 by decide), if_neg (show ¬ nI 0 = 3 by decide), s_paid rt oa, m1]
      simp only [bn_s]
      rw [if_pos (show nI 0 = 0 from rfl), m4]
      exact ⟨_, _, _, rfl, rfl, SR_96 (SR_frame h m3 (by rw [m2]) (fun r _ => by rw [m2]))⟩
    · subst q
      obtain ⟨M', m1, m2, m3, m4, m5⟩ := m_runs rm oa
      rw [if_neg (show ¬ nI 1 = 0 by decide), if_pos (show nI 1 = 1 from rfl), if_neg (show ¬ nI 1 = 2 by decide), if_neg (show ¬ nI 1 = 3 by decide), s_left rt oa, m1]
      simp only [bn_s]
      rw [if_neg (show ¬ nI 1 = 0 by decide), m5]
      exact ⟨_, _, _, rfl, rfl, SR_96 (SR_frame h m3 (by rw [m2]) (fun r _ => by rw [m2]))⟩
    · subst q
      obtain ⟨y, y7, y8⟩ := best_both rt rm oa
      rw [if_neg (show ¬ nI 2 = 0 by decide), if_neg (show ¬ nI 2 = 1 by decide), if_pos (show nI 2 = 2 from rfl), if_pos (show nI 2 = 2 from rfl), y7, y8]
      simp only [bn_s]
      exact ⟨_, _, _, rfl, rfl, SR_96 h⟩
    · subst q
      have c0 : (M.2.2 0) 0 = nI (A.1 0) := rm.2.1 0 (by omega)
      have d0 : N.1 0 = nI (A.1 0) := rt.1 0 (by omega)
      rw [if_neg (show ¬ nI 3 = 0 by decide), if_neg (show ¬ nI 3 = 1 by decide), if_neg (show ¬ nI 3 = 2 by decide), if_pos (show nI 3 = 3 from rfl), if_neg (show ¬ nI 3 = 2 by decide), if_pos (show nI 3 = 3 from rfl), s_all rt oa]
      rw [bn_s, d0, show (0 : Int32) = nI 0 from rfl, gi_n (by omega) (by omega), clN (by omega), lett_d, lett_d, c0, m_all rm oa]
      unfold f_X8_run_63
      generalize nI (sumW A (A.1 5)) - nI (A.1 0) = v
      by_cases q : nI 0 < v
      · rw [if_pos q, if_pos (show (0 : Int32) ≤ v from Int32.le_of_lt q)]
        exact ⟨_, _, _, rfl, rfl, SR_96 h⟩
      · rw [if_neg q]
        by_cases r : (0 : Int32) ≤ v
        · have e0 : v = 0 := Int32.le_antisymm (Int32.not_lt.mp q) r
          rw [if_pos r, e0]
          exact ⟨_, _, _, rfl, rfl, SR_96 h⟩
        · rw [if_neg r]
          exact ⟨_, _, _, rfl, rfl, SR_96 h⟩
  · rw [show f_X8_in x 0 3 = some 0 from e1]
    rw [if_neg (show ¬ x = 0 from hn 0 (by omega)), if_neg (show ¬ x = 1 from hn 1 (by omega)), if_neg (show ¬ x = 2 from hn 2 (by omega)), if_neg (show ¬ x = 3 from hn 3 (by omega))]
    simp only [bn_s, if_true, bad7, bad8]
    exact ⟨_, _, _, rfl, rfl, SR_bad h⟩
end
