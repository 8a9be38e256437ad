/-! PURE: how much the chest must hold. -/
theorem rM5_10 {A : AT} {f : Nat → Nat} {t : Nat → Int32} (h : rM5 (set10 A f) t) : rM5 A t := by
  refine ⟨h.1, h.2.1, fun j hj p hp => ?_, fun j hj p hp => ?_, fun j hj p hp => ?_⟩
  · rw [← set10_j (A := A) (f := f) (show j ≠ 10 by omega)]; exact h.2.2.1 j hj p hp
  · rw [← set10_j (A := A) (f := f) (show 3 + j ≠ 10 by omega)]; exact h.2.2.2.1 j hj p hp
  · rw [← set10_j (A := A) (f := f) (show 8 + j ≠ 10 by omega)]; exact h.2.2.2.2 j hj p hp
/-- one try with c in the chest, on both sides -/
theorem hold_one {A : AT} {N R : Tw} {M : Ms} {b m c : Nat} (t : Nat → Int32) (rt : rT A N) (rm : rM A (M.2.2 0)) (oa : okA b A) (hc : c ≤ 9999) (hb : b < 100000) (hm : m ≤ 60) : ∃ x R' t0 t', f_X1_firstLack (nI c) (nI m) R N = some (x, R') ∧ f_X8_tries (t1N M t) = some (t1N M t0) ∧ f_X8_firstLack (nI m) (t1N M (upd t0 0 (nI c))) = some (x, t1N M t') ∧ (x = -1 ↔ holdN A m c) := by
  have rm1 : rM A ((t1N M t).2.2 0) := by rw [t1N_0]; exact rm
  obtain ⟨t0, et, rmt, _⟩ := m_tries rm1
  have tt : t1N (t1N M t) t0 = t1N M t0 := t1N_t
  have r1 : rM (setS (fixR A t0) 0 c) (upd t0 0 (nI c)) := rM_setS (k := 0) rmt (by omega)
  have r5 : rM5 (setS A 0 c) (upd t0 0 (nI c)) := rM5_10 (rM_5 r1)
  have r2 : rM (set10 (setS A 0 c) (fun k => (upd t0 0 (nI c) k).toUInt32.toNat)) (upd t0 0 (nI c)) := rM_fix r5
  obtain ⟨x, R', t', e1, e2, hx⟩ := first_both (R := R) (M := M) rt r2 oa (show c ≤ 99999 by omega) hb hm
  refine ⟨x, R', t0, t', e1, by rw [et, tt], e2, ?_⟩
  rcases hx with ⟨q1, q2⟩ | ⟨i, hi, q1, q2⟩
  · exact ⟨fun _ => q2, fun _ => q1⟩
  · have nx : ¬ x = -1 := by rw [q1]; exact neg1 (by omega)
    refine ⟨fun q => absurd q nx, fun q => ?_⟩
    have up := ahead_up (A := setS A 0 c) (i + 1) (m - (i + 1))
    rw [show i + 1 + (m - (i + 1)) = m by omega] at up
    have q' : (aheadN m (setS A 0 c)).1 3 = A.1 3 := q
    omega
theorem m_holds {A : AT} {N : Tw} {M : Ms} {b m : Nat} (rt : rT A N) (rm : rM A (M.2.2 0)) (oa : okA b A) (hb : b < 100000) (hm : m ≤ 60) : ok (fun r => ∃ t', r.2 = t1N M t' ∧ ((∃ c, c < 10000 ∧ r.1 = nI c ∧ holdN A m c ∧ ∀ c', c' < c → ¬ holdN A m c') ∨ (r.1 = -1 ∧ ∀ c', c' < 10000 → ¬ holdN A m c'))) (l_X8_holds_17 (nI m) FU (nI 0) M) := by
  unfold l_X8_holds_17
  have start : (nI 0, M) = (nI 0, t1N M (M.2.2 1)) := by
    unfold t1N
    rw [vu_self]
  rw [start]
  refine itr_rel (fun i z => ∃ t, z = (nI i, t1N M t) ∧ ∀ c', c' < i → ¬ holdN A m c') _ 10000 ?_ FU 0 _ ⟨_, rfl, fun c' h => absurd h (Nat.not_lt_zero _)⟩ (Nat.zero_le _) (by rw [FU_d]; omega)
  rintro i z hi ⟨t, rfl, hno⟩
  by_cases hlt : i < 10000
  · obtain ⟨x, R', t0, t', _, e2, e3, hx⟩ := hold_one (R := N) (M := M) (c := i) t rt rm oa (by omega) hb hm
    have body : ∀ k : Int32 × Ms → Option (Int32 × Ms), f_X8_holds_17 (nI m) (nI i) (t1N M t) (fun x2 M => k (x2, M)) = if x = -1 then some (nI i, t1N M t') else k (nI (i + 1), t1N M t') := by
      intro k
      unfold f_X8_holds_17
      rw [if_neg (by rw [show (10000 : Int32) = nI 10000 from rfl, leN (by omega) (by omega)]; omega), e2, bn_s, show (0 : Int32) = nI 0 from rfl, gi_n (by omega) (by omega), clN (by omega), lett_d, t1N_1, t1N_t, e3, bn_s, lett_d, show nI i + 1 = nI (i + 1) from nI_add i 1]
    by_cases hh : holdN A m i
    · right
      exact ⟨some (nI i, t1N M t'), ok_s ⟨t', rfl, Or.inl ⟨i, hlt, rfl, hh, hno⟩⟩, fun k => (body k).trans (if_pos (hx.mpr hh))⟩
    · left
      refine ⟨hlt, (nI (i + 1), t1N M t'), ⟨t', rfl, fun c' hc' => ?_⟩, fun k => (body k).trans (if_neg (fun q => hh (hx.mp q)))⟩
      by_cases e : c' = i
      · subst e; exact hh
      · exact hno c' (by omega)
  · right
    have e : i = 10000 := by omega
    subst e
    refine ⟨some (-1, t1N M t), ok_s ⟨t, rfl, Or.inr ⟨rfl, hno⟩⟩, fun k => ?_⟩
    show f_X8_holds_17 (nI m) (nI 10000) (t1N M t) _ = _
    unfold f_X8_holds_17
    rw [if_pos (show (10000 : Int32) ≤ nI 10000 from Int32.le_refl _)]
theorem s_holds {A : AT} {N R : Tw} {M : Ms} {b m : Nat} (rt : rT A N) (rm : rM A (M.2.2 0)) (oa : okA b A) (hb : b < 100000) (hm : m ≤ 60) : ok (fun r => (∃ c, c < 10000 ∧ r.1 = nI c ∧ holdN A m c ∧ ∀ c', c' < c → ¬ holdN A m c') ∨ (r.1 = -1 ∧ ∀ c', c' < 10000 → ¬ holdN A m c')) (f_X1_leastChest (nI m) R N) := by
  unfold f_X1_leastChest
  obtain ⟨x, R1, t0, t', e1, _, _, hx⟩ := hold_one (R := R) (M := M) (c := 9999) (M.2.2 1) rt rm oa (by omega) hb hm
  rw [show (9999 : Int32) = nI 9999 from rfl, e1, bn_s]
  by_cases h9 : holdN A m 9999
  · rw [if_pos (hx.mpr h9), lett_d, lett_d, lett_d, show (0 : Int32) = nI 0 from rfl]
    unfold l_X1_leastChest_25
    refine itr_rel (fun i z => ∃ lo hi R', z = (nI lo, nI hi, nI i, R') ∧ lo ≤ hi ∧ hi ≤ 9999 ∧ hi - lo < 2 ^ (14 - i) ∧ holdN A m hi ∧ ∀ c', c' < lo → ¬ holdN A m c') _ 14 ?_ FU 0 _ ⟨0, 9999, R1, rfl, by omega, by omega, by decide, h9, fun c' h => absurd h (Nat.not_lt_zero _)⟩ (Nat.zero_le _) (by rw [FU_d]; omega)
    rintro i z hi14 ⟨lo, hi, R', rfl, hle, h99, hw, hh, hno⟩
    by_cases hlt : i < 14
    · by_cases hlh : lo < hi
      · left
        obtain ⟨y, R2, _, _, f1, _, _, hy⟩ := hold_one (R := R') (M := M) (c := (lo + hi) / 2) (M.2.2 1) rt rm oa (by omega) hb hm
        have pw : 2 ^ (14 - i) = 2 * 2 ^ (14 - (i + 1)) := by
          rw [show 14 - i = (14 - (i + 1)) + 1 by omega, Nat.pow_succ, Nat.mul_comm]
        have body : ∀ k : Int32 × Int32 × Int32 × Tw → Option (Int32 × Tw), f_X1_leastChest_25 (nI m) (nI lo) (nI hi) (nI i) R' N (fun x3 x4 x5 N => k (x3, x4, x5, N)) = if y = -1 then k (nI lo, nI ((lo + hi) / 2), nI (i + 1), R2) else k (nI ((lo + hi) / 2 + 1), nI hi, nI (i + 1), R2) := by
          intro k
          unfold f_X1_leastChest_25 f_X1_leastChest_70
          rw [if_neg (by rw [show (14 : Int32) = nI 14 from rfl, leN (by omega) (by omega)]; omega), if_neg (by rw [leN (by omega) (by omega)]; omega), lett_d, nI_add, show (2 : Int32) = nI 2 from rfl, divN (by omega) (by omega) (by omega), f1, bn_s, lett_d, lett_d, lett_d, show nI i + 1 = nI (i + 1) from nI_add i 1, show nI ((lo + hi) / 2) + 1 = nI ((lo + hi) / 2 + 1) from nI_add _ 1]
        by_cases hm2 : holdN A m ((lo + hi) / 2)
        · refine ⟨hlt, (nI lo, nI ((lo + hi) / 2), nI (i + 1), R2), ⟨lo, (lo + hi) / 2, R2, rfl, by omega, by omega, by omega, hm2, hno⟩, fun k => (body k).trans (if_pos (hy.mpr hm2))⟩
        · refine ⟨hlt, (nI ((lo + hi) / 2 + 1), nI hi, nI (i + 1), R2), ⟨(lo + hi) / 2 + 1, hi, R2, rfl, by omega, h99, by omega, hh, fun c' hc' q => ?_⟩, fun k => (body k).trans (if_neg (fun q => hm2 (hy.mp q)))⟩
          exact hm2 (hold_mono oa q (by omega) (by omega))
      · right
        refine ⟨some (nI hi, R'), ok_s (Or.inl ⟨hi, by omega, rfl, hh, fun c' hc' => hno c' (by omega)⟩), fun k => ?_⟩
        show f_X1_leastChest_25 (nI m) (nI lo) (nI hi) (nI i) R' N _ = _
        unfold f_X1_leastChest_25
        rw [if_neg (by rw [show (14 : Int32) = nI 14 from rfl, leN (by omega) (by omega)]; omega), if_pos (by rw [leN (by omega) (by omega)]; omega)]
    · right
      have e : i = 14 := by omega
      subst e
      have hw' : hi - lo < 1 := hw
      refine ⟨some (nI hi, R'), ok_s (Or.inl ⟨hi, by omega, rfl, hh, fun c' hc' => hno c' (by omega)⟩), fun k => ?_⟩
      show f_X1_leastChest_25 (nI m) (nI lo) (nI hi) (nI 14) R' N _ = _
      unfold f_X1_leastChest_25
      rw [if_pos (show (14 : Int32) ≤ nI 14 from Int32.le_refl _)]
  · rw [if_neg (fun q => h9 (hx.mp q))]
    exact ok_s (Or.inr ⟨rfl, fun c' hc' q => h9 (hold_mono oa q (by omega) (by omega))⟩)
section
variable {b : Nat} {B : Nat → Int32} {N : Tw} {P : Ps} {I1 : Int32} {T1 : Tw} {P1 : Ps} {I2 : Int32} {T2 : Tw} {P2 : Ps} {X : Tx} {K : Ch} {M : Ms}
theorem q_holds (h : SR b B N P I1 T1 P1 I2 T2 P2 X K M) (hb : b < 100000) (R : Tw) (x : Int32) : ∃ r B' R' M', f_X7_holds x B N R = some (r, B', R') ∧ f_X8_holds x M = some (r, M') ∧ SR (b + 96) B' N P I1 T1 P1 I2 T2 P2 X K M' := by
  obtain ⟨A, H, rt, rm, oa, rp, rmp, op⟩ := h.2.1
  unfold f_X7_holds f_X8_holds
  rcases in_cases x 0 60 (by omega) (by omega) with ⟨m, _, hm, e, e8, e7⟩ | ⟨e8, e7⟩
  · rw [show f_X7_within x 0 60 = some 1 from e7, show f_X8_in x 0 60 = some 1 from e8]
    subst e
    simp only [bn_s, if_neg i10]
    obtain ⟨r7, s1, s2⟩ := s_holds (R := R) (M := M) rt rm oa hb hm
    obtain ⟨r8, m1, t', m2, m3⟩ := m_holds (M := M) rt rm oa hb hm
    have same : r8.1 = r7.1 := by
      rcases s2 with ⟨c, hc, p1, p2, p3⟩ | ⟨p1, p2⟩
      · rcases m3 with ⟨c', hc', q1, q2, q3⟩ | ⟨q1, q2⟩
        · have : c = c' := by
            rcases Nat.lt_trichotomy c c' with l | l | l
            · exact absurd p2 (q3 c l)
            · exact l
            · exact absurd q2 (p3 c' l)
          rw [p1, q1, this]
        · exact absurd p2 (q2 c hc)
      · rcases m3 with ⟨c', hc', q1, q2, q3⟩ | ⟨q1, q2⟩
        · exact absurd q2 (p2 c' hc')
        · rw [p1, q1]
    rw [s1, lett_d, show (0 : Int32) = nI 0 from rfl, m1, bn_s]
    refine ⟨r7.1, B, r7.2, r8.2, rfl, ?_, ?_⟩
    · rw [← same]
    · rw [m2]; exact SR_t1 h t'
  · rw [show f_X7_within x 0 60 = some 0 from e7, show f_X8_in x 0 60 = some 0 from e8]
    simp only [bn_s, if_true, bad7, bad8]
    exact ⟨_, _, _, _, rfl, rfl, SR_bad h⟩
end
