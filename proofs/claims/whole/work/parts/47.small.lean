/-! PURE: the small calls. -/
theorem i10 : ¬ ((1 : Int32) = 0) := by decide
theorem sw_cases (x : Int32) (n : Nat) (hn : n < 1000000) : (∃ j, j ≤ n ∧ x = nI j ∧ f_X8_in x (nI 0) (nI n) = some 1) ∨ (f_X8_in x (nI 0) (nI n) = some 0 ∧ ∀ j, j ≤ n → ¬ x = nI j) := by
  rcases in_cases x 0 n (by omega) (by omega) with ⟨j, _, hj, e, e8, _⟩ | ⟨e8, _⟩
  · exact Or.inl ⟨j, hj, e, e8⟩
  · refine Or.inr ⟨e8, fun j hj e => ?_⟩
    subst e
    unfold f_X8_in at e8
    rw [if_neg (by rw [ltN (by omega) (by omega)]; omega), if_neg (by rw [ltN (by omega) (by omega)]; omega)] at e8
    cases e8
section
variable {b : Nat} {B : Nat → Int32} {N : Tw} {P : Ps} {I1 : Int32} {T1 : Tw} {P1 : Ps} {I2 : Int32} {T2 : Tw} {P2 : Ps} {X : Tx} {K : Ch} {M : Ms}
theorem SR_bad (h : SR b B N P I1 T1 P1 I2 T2 P2 X K M) : SR (b + 96) (upd B 0 (B 0 + 1)) N P I1 T1 P1 I2 T2 P2 X K (refM M 0) := SR_mono (SR_ref h 0 (by omega)) (by omega)
theorem SR_no (h : SR b B N P I1 T1 P1 I2 T2 P2 X K M) : SR (b + 96) (upd B 1 (B 1 + 1)) N P I1 T1 P1 I2 T2 P2 X K (refM M 1) := SR_mono (SR_ref h 1 (by omega)) (by omega)
theorem SR_full (h : SR b B N P I1 T1 P1 I2 T2 P2 X K M) : SR (b + 96) (upd B 2 (B 2 + 1)) N P I1 T1 P1 I2 T2 P2 X K (refM M 2) := SR_mono (SR_ref h 2 (by omega)) (by omega)
theorem SR_96 (h : SR b B N P I1 T1 P1 I2 T2 P2 X K M) : SR (b + 96) B N P I1 T1 P1 I2 T2 P2 X K M := SR_mono h (by omega)
/-- the town now is another one, the past is as it was -/
theorem SR_set (h : SR b B N P I1 T1 P1 I2 T2 P2 X K M) {A A' : AT} {N' : Tw} {t' : Nat → Int32} {H : AP} (hP : rPast H P) (hO : okP b A H) (hM : rMPast H t') (rt : rT A' N') (rm : rM A' t') (oa : okA (b + 96) A') (h4 : A.1 4 ≤ A'.1 4) (h5 : A.1 5 ≤ A'.1 5) (he : ∀ l, l < A.1 5 → A'.2 5 l = A.2 5 l) : SR (b + 96) B N' P I1 T1 P1 I2 T2 P2 X K (M.1, M.2.1, va_up M.2.2 0 t') :=
  SR_now h (by omega) ⟨A', H, rt, rm, oa, hP, hM, okP_mono hO (by omega) h4 h5 he⟩
theorem q_chest (h : SR b B N P I1 T1 P1 I2 T2 P2 X K M) (x : Int32) : ∃ r B' N' M', f_X7_chest x B N = some (r, B', N') ∧ f_X8_chest x M = some (r, M') ∧ SR (b + 96) B' N' P I1 T1 P1 I2 T2 P2 X K M' := by
  obtain ⟨A, H, rt, rm, oa, rp, rmp, op⟩ := h.2.1
  unfold f_X7_chest f_X8_chest
  rcases in_cases x 0 99999 (by omega) (by omega) with ⟨j, _, hj, e, e8, e7⟩ | ⟨e8, e7⟩
  · rw [show f_X7_within x 0 99999 = some 1 from e7, show f_X8_in x 0 99999 = some 1 from e8]
    have c0 : (M.2.2 0) 0 = nI (A.1 0) := rm.2.1 0 (by omega)
    have d0 : N.1 0 = nI (A.1 0) := rt.1 0 (by omega)
    simp only [bn_s, if_neg i10]
    simp (disch := omega) only [lett_d, litI, gi_n, clN, c0, d0]
    refine ⟨_, _, _, _, rfl, rfl, SR_set h rp op (rMPast_upd rmp (by omega) (by omega)) (A' := setS A 0 j) ?_ ?_ (okA_mono (okA_chest oa hj) (by omega)) (Nat.le_refl _) (Nat.le_refl _) (fun _ _ => rfl)⟩
    · subst e; exact rT_setS rt (by omega)
    · subst e; exact rM_setS (k := 0) rm (by omega)
  · rw [show f_X7_within x 0 99999 = some 0 from e7, show f_X8_in x 0 99999 = some 0 from e8]
    simp only [bn_s, if_true, bad7, bad8]
    exact ⟨_, _, _, _, rfl, rfl, SR_bad h⟩
theorem okA_rate {b x : Nat} {A : AT} (hA : okA b A) (hx : x ≤ 50) : okA b (setS A 1 x) := by
  obtain ⟨h0, h1, h2⟩ := hA
  exact ⟨h0, hx, h2⟩
theorem q_rate (h : SR b B N P I1 T1 P1 I2 T2 P2 X K M) (x : Int32) : ∃ r B' N' M', f_X7_rate x B N = some (r, B', N') ∧ f_X8_rate x M = some (r, M') ∧ SR (b + 96) B' N' P I1 T1 P1 I2 T2 P2 X K M' := by
  obtain ⟨A, H, rt, rm, oa, rp, rmp, op⟩ := h.2.1
  unfold f_X7_rate f_X8_rate
  rcases in_cases x 0 50 (by omega) (by omega) with ⟨j, _, hj, e, e8, e7⟩ | ⟨e8, e7⟩
  · rw [show f_X7_within x 0 50 = some 1 from e7, show f_X8_in x 0 50 = some 1 from e8]
    have c0 : (M.2.2 0) 1 = nI (A.1 1) := rm.2.1 1 (by omega)
    have d0 : N.1 1 = nI (A.1 1) := rt.1 1 (by omega)
    simp only [bn_s, if_neg i10]
    simp (disch := omega) only [lett_d, litI, gi_n, clN, c0, d0]
    refine ⟨_, _, _, _, rfl, rfl, SR_set h rp op (rMPast_upd rmp (by omega) (by omega)) (A' := setS A 1 j) ?_ ?_ (okA_mono (okA_rate oa hj) (by omega)) (Nat.le_refl _) (Nat.le_refl _) (fun _ _ => rfl)⟩
    · subst e; exact rT_setS rt (by omega)
    · subst e; exact rM_setS (k := 1) rm (by omega)
  · rw [show f_X7_within x 0 50 = some 0 from e7, show f_X8_in x 0 50 = some 0 from e8]
    simp only [bn_s, if_true, bad7, bad8]
    exact ⟨_, _, _, _, rfl, rfl, SR_bad h⟩
theorem q_none (h : SR b B N P I1 T1 P1 I2 T2 P2 X K M) : ∃ r N' M', f_X7_none B N = some (r, N') ∧ f_X8_none M = some (r, M') ∧ SR (b + 96) B N' P I1 T1 P1 I2 T2 P2 X K M' := by
  obtain ⟨A, H, rt, rm, oa, rp, rmp, op⟩ := h.2.1
  unfold f_X7_none f_X8_none
  have c0 : (M.2.2 0) 5 = nI (A.1 6) := rm.2.1 6 (by omega)
  have d0 : N.1 6 = nI (A.1 6) := rt.1 6 (by omega)
  simp (disch := omega) only [bn_s, if_neg i10, lett_d, litI, gi_n, clN, c0, d0]
  refine ⟨_, _, _, rfl, rfl, SR_set h rp op (rMPast_upd rmp (by omega) (by omega)) (A' := setS A 6 0) ?_ ?_ ?_ (Nat.le_refl _) (Nat.le_refl _) (fun _ _ => rfl)⟩
  · refine ⟨fun i hi => ?_, rt.2.1, rt.2.2.1, fun j _ _ o ho => absurd ho (Nat.not_lt_zero _)⟩
    show upd N.1 6 (nI 0) i = nI (updN A.1 6 0 i)
    unfold upd updN
    by_cases e : i = 6
    · simp [e]
    · simp [e, rt.1 i hi]
  · refine ⟨⟨rm.1.1, rm.1.2.1, Nat.zero_le _⟩, fun i hi => ?_, fun j hj p hp => ?_, fun j hj p hp => ?_, fun j hj p hp => absurd hp (Nat.not_lt_zero _), fun k hk => ?_⟩
    · show upd (M.2.2 0) (ixS 6) (nI 0) (ixS i) = nI (updN A.1 6 0 i)
      unfold upd updN
      by_cases e : i = 6
      · simp [e]
      · rw [if_neg (ixS_ne hi (by omega) e), if_neg e]; exact rm.2.1 i hi
    · rw [up_n (by omega)]; exact rm.2.2.1 j hj p hp
    · rw [up_n (by omega)]; exact rm.2.2.2.1 j hj p hp
    · rw [up_n (by omega)]; exact rm.2.2.2.2.2 k hk
  · obtain ⟨a0, a1, a2, a3, a4, a5, a6, a7, a8, a9⟩ := oa
    exact ⟨a0, a1, Nat.le_trans a2 (by omega), Nat.le_trans a3 (by omega), a4, a5, Nat.zero_le _, a7, a8, fun o ho => absurd ho (Nat.not_lt_zero _)⟩
/-- the text alone changes -/
theorem SR_text (h : SR b B N P I1 T1 P1 I2 T2 P2 X K M) {X' : Tx} {n : Int32} {t : Nat → Int32} (hx : SRx X' n t) {M' : Ms} (e1 : M'.1 0 = n) (e2 : M'.2.1 = M.2.1) (e6 : M'.2.2 6 = t) (e3 : ∀ r, r = 0 ∨ r = 3 ∨ r = 4 ∨ r = 5 → M'.2.2 r = M.2.2 r) : SR (b + 96) B N P I1 T1 P1 I2 T2 P2 X' K M' := by
  obtain ⟨h1, h2, h3, h4, h5, h6⟩ := SR_96 h
  unfold SR
  rw [e3 0 (by omega), e3 3 (by omega), e3 4 (by omega), e3 5 (by omega), e1, e2, e6]
  exact ⟨h1, h2, h3, h4, hx, h6⟩
theorem q_clear (h : SR b B N P I1 T1 P1 I2 T2 P2 X K M) : ∃ r X' M', f_X7_clear B X = some (r, X') ∧ f_X8_clear M = some (r, M') ∧ SR (b + 96) B N P I1 T1 P1 I2 T2 P2 X' K M' := by
  obtain ⟨m, hm, x0, n0, hx⟩ := h.2.2.2.2.1
  unfold f_X7_clear f_X8_clear
  simp only [lett_d, x0, n0]
  refine ⟨_, _, _, rfl, rfl, SR_text h (n := nI 0) (t := M.2.2 6) ⟨0, Nat.zero_le _, ?_, rfl, fun j hj => absurd hj (Nat.not_lt_zero _)⟩ ?_ rfl rfl (fun _ _ => rfl)⟩
  · show upd X.1 0 (nI 0) 0 = nI 0
    rw [up_s]
  · show upd M.1 0 (nI 0) 0 = nI 0
    rw [up_s]
theorem byte_n {c : Nat} (h : c ≤ 127) : vp_nar .byte ((nI c).toInt8.toInt32) = nI c := by
  have key : ∀ c : Fin 128, vp_nar .byte ((nI c.val).toInt8.toInt32) = nI c.val := by decide +kernel
  exact key ⟨c, by omega⟩
theorem q_type (h : SR b B N P I1 T1 P1 I2 T2 P2 X K M) (x : Int32) : ∃ r B' X' M', f_X7_type x B X = some (r, B', X') ∧ f_X8_type x M = some (r, M') ∧ SR (b + 96) B' N P I1 T1 P1 I2 T2 P2 X' K M' := by
  obtain ⟨m, hm, x0, n0, hx⟩ := h.2.2.2.2.1
  unfold f_X7_type f_X8_type
  rcases in_cases x 0 127 (by omega) (by omega) with ⟨j, _, hj, e, e8, e7⟩ | ⟨e8, e7⟩
  · rw [show f_X7_within x 0 127 = some 1 from e7, show f_X8_in x 0 127 = some 1 from e8]
    subst e
    simp only [bn_s, if_neg i10]
    simp (disch := omega) only [litI, x0, n0, ltN, eqN]
    by_cases hf : m = 150
    · rw [if_neg (by omega), if_pos hf]
      simp only [full7, full8, bn_s]
      exact ⟨_, _, _, _, rfl, rfl, SR_full h⟩
    · rw [if_pos (by omega), if_neg hf]
      unfold f_X4_add
      simp (disch := omega) only [litI, x0, n0, leN, gi_n, clN, lett_d, byte_n, nI_add]
      rw [if_neg (by omega)]
      simp only [bn_s]
      refine ⟨nI (m + 1), B, (upd X.1 0 (nI (m + 1)), upd X.2 m (nI j)), (upd M.1 0 (nI (m + 1)), M.2.1, va_up M.2.2 6 (upd (M.2.2 6) m (nI j))), by simp only [up_s], by simp only [up_s], SR_text h (n := nI (m + 1)) (t := upd (M.2.2 6) m (nI j)) ⟨m + 1, by omega, ?_, rfl, fun i hi => ?_⟩ ?_ rfl ?_ ?_⟩
      · show upd X.1 0 (nI (m + 1)) 0 = _
        rw [up_s]
      · show ∃ c, c ≤ 127 ∧ upd X.2 m (nI j) i = nI c ∧ _
        by_cases e : i = m
        · subst e; exact ⟨j, hj, up_s, up_s⟩
        · obtain ⟨c, hc, a1, a2⟩ := hx i (by omega)
          exact ⟨c, hc, by rw [← a1]; exact up_n e, by rw [← a2]; exact up_n e⟩
      · show upd M.1 0 (nI (m + 1)) 0 = _
        rw [up_s]
      · exact (vu_s : va_up M.2.2 6 (upd (M.2.2 6) m (nI j)) 6 = _)
      · intro r hr
        exact (vu_n (by omega) : va_up M.2.2 6 (upd (M.2.2 6) m (nI j)) r = _)
  · rw [show f_X7_within x 0 127 = some 0 from e7, show f_X8_in x 0 127 = some 0 from e8]
    simp only [bn_s, if_true, bad7, bad8]
    exact ⟨_, _, _, _, rfl, rfl, SR_bad h⟩
theorem q_whose (h : SR b B N P I1 T1 P1 I2 T2 P2 X K M) (x y : Int32) : ∃ r B' M', f_X7_whose x y B N = some (r, B') ∧ f_X8_whose x y M = some (r, M') ∧ SR (b + 96) B' N P I1 T1 P1 I2 T2 P2 X K M' := by
  obtain ⟨A, H, rt, rm, oa, rp, rmp, op⟩ := h.2.1
  unfold f_X7_whose f_X8_whose f_X8_whose_33
  rcases person_cases rt rm oa x with ⟨p, hp, e, e8, e7⟩ | ⟨e8, e7⟩
  · rw [e7, e8]
    simp only [bn_s, if_neg i10]
    have a4 := oa.2.2.2.2.1
    rcases sw_cases y 2 (by omega) with ⟨j, hj, ey, e1⟩ | ⟨e1, hn⟩
    · rw [show f_X8_in y 0 2 = some 1 from e1]
      subst ey e
      simp only [bn_s, if_neg i10]
      have d := rm.2.2.1 j (by omega) p hp
      have c := rt.2.1 j (by omega) p hp
      simp (disch := omega) only [litI, eqN, gi_n, clN, pk_mul, nI_add, d]
      refine ⟨_, _, _, ?_, rfl, SR_96 h⟩
      have hj' : j = 0 ∨ j = 1 ∨ j = 2 := by omega
      rcases hj' with e | e | e
      · subst e; rw [if_pos rfl, c]
      · subst e; rw [if_neg (by omega), if_pos rfl, c]
      · subst e; rw [if_neg (by omega), if_neg (by omega), if_pos rfl, c]
    · rw [show f_X8_in y 0 2 = some 0 from e1]
      rw [if_neg (show ¬ y = 0 from hn 0 (by omega)), if_neg (show ¬ y = 1 from hn 1 (by omega)), if_neg (show ¬ y = 2 from hn 2 (by omega))]
      simp only [bn_s, if_true, bad7, bad8]
      exact ⟨_, _, _, rfl, rfl, SR_bad h⟩
  · rw [e7, e8]
    simp only [bn_s, if_true, bad7, bad8]
    exact ⟨_, _, _, rfl, rfl, SR_bad h⟩
theorem q_about (h : SR b B N P I1 T1 P1 I2 T2 P2 X K M) (x y : Int32) : ∃ r B' M', f_X7_about x y B N = some (r, B') ∧ f_X8_about x y M = some (r, M') ∧ SR (b + 96) B' N P I1 T1 P1 I2 T2 P2 X K M' := by
  obtain ⟨A, H, rt, rm, oa, rp, rmp, op⟩ := h.2.1
  unfold f_X7_about f_X8_about f_X8_about_17
  rcases loan_cases rt rm oa x with ⟨l, hl, e, e8, e7⟩ | ⟨e8, e7⟩
  · rw [e7, e8]
    simp only [bn_s, if_neg i10]
    have a5 := oa.2.2.2.2.2.1
    rcases sw_cases y 5 (by omega) with ⟨j, hj, ey, e1⟩ | ⟨e1, hn⟩
    · rw [show f_X8_in y 0 5 = some 1 from e1]
      subst ey e
      simp only [bn_s, if_neg i10]
      by_cases hj5 : j = 5
      · subst hj5
        simp (disch := omega) only [litI, eqN, s_wholeOf rt oa hl, m_whole rm oa hl, bn_s]
        exact ⟨_, _, _, rfl, rfl, SR_96 h⟩
      · have d := rm.2.2.2.1 j (by omega) l hl
        have c := rt.2.2.1 (3 + j) (by omega) (by omega) l hl
        simp (disch := omega) only [litI, eqN, gi_n, clN, pk_mul, nI_add, d]
        simp only [if_neg hj5]
        refine ⟨_, _, _, ?_, rfl, SR_96 h⟩
        have hj' : j = 0 ∨ j = 1 ∨ j = 2 ∨ j = 3 ∨ j = 4 := by omega
        rcases hj' with e | e | e | e | e
        · subst e; rw [if_pos rfl, c]
        · subst e; rw [if_neg (by omega), if_pos rfl, c]
        · subst e; rw [if_neg (by omega), if_neg (by omega), if_pos rfl, c]
        · subst e; rw [if_neg (by omega), if_neg (by omega), if_neg (by omega), if_pos rfl, c]
        · subst e; rw [if_neg (by omega), if_neg (by omega), if_neg (by omega), if_neg (by omega), if_pos rfl, c]
    · rw [show f_X8_in y 0 5 = some 0 from e1]
      rw [if_neg (show ¬ y = 0 from hn 0 (by omega)), if_neg (show ¬ y = 1 from hn 1 (by omega)), if_neg (show ¬ y = 2 from hn 2 (by omega)), if_neg (show ¬ y = 3 from hn 3 (by omega)), if_neg (show ¬ y = 4 from hn 4 (by omega)), if_neg (show ¬ y = 5 from hn 5 (by omega))]
      simp only [bn_s, if_true, bad7, bad8]
      exact ⟨_, _, _, rfl, rfl, SR_bad h⟩
  · rw [e7, e8]
    simp only [bn_s, if_true, bad7, bad8]
    exact ⟨_, _, _, rfl, rfl, SR_bad h⟩
theorem q_part (h : SR b B N P I1 T1 P1 I2 T2 P2 X K M) (x : Int32) : ∃ r B' M', f_X7_part x B K = some (r, B') ∧ f_X8_part x M = some (r, M') ∧ SR (b + 96) B' N P I1 T1 P1 I2 T2 P2 X K M' := by
  unfold f_X7_part f_X8_part
  rw [h.2.2.2.2.2.1, h.2.2.2.2.2.2]
  by_cases h0 : x = 0
  · rw [if_pos h0, if_pos h0]; exact ⟨_, _, _, rfl, rfl, SR_96 h⟩
  · rw [if_neg h0, if_neg h0]
    by_cases h1 : x = 1
    · rw [if_pos h1, if_pos h1]; exact ⟨_, _, _, rfl, rfl, SR_96 h⟩
    · rw [if_neg h1, if_neg h1]
      simp only [bad7, bad8, bn_s]
      exact ⟨_, _, _, rfl, rfl, SR_bad h⟩
theorem q_status (h : SR b B N P I1 T1 P1 I2 T2 P2 X K M) (x : Int32) : ∃ r B' M', f_X7_status x B = some (r, B') ∧ f_X8_status x M = some (r, M') ∧ SR (b + 96) B' N P I1 T1 P1 I2 T2 P2 X K M' := by
  unfold f_X7_status f_X8_status
  rcases sw_cases x 2 (by omega) with ⟨j, hj, e, e1⟩ | ⟨e1, hn⟩
  · rw [show f_X8_in x 0 2 = some 1 from e1]
    subst e
    simp only [bn_s, if_neg i10]
    simp (disch := omega) only [litI, eqN, gi_n, clN]
    refine ⟨_, _, _, ?_, rfl, SR_96 h⟩
    have hj' : j = 0 ∨ j = 1 ∨ j = 2 := by omega
    rcases hj' with e | e | e
    · subst e; rw [if_pos rfl, h.1 0 (by omega)]
    · subst e; rw [if_neg (by omega), if_pos rfl, h.1 1 (by omega)]
    · subst e; rw [if_neg (by omega), if_neg (by omega), if_pos rfl, h.1 2 (by omega)]
  · rw [show f_X8_in x 0 2 = some 0 from e1]
    rw [if_neg (show ¬ x = 0 from hn 0 (by omega)), if_neg (show ¬ x = 1 from hn 1 (by omega)), if_neg (show ¬ x = 2 from hn 2 (by omega))]
    simp only [bn_s, if_true, bad7, badAs8]
    exact ⟨_, _, _, rfl, rfl, SR_bad h⟩
/-- what there is, counted: both alike -/
theorem count_eq (h : SR b B N P I1 T1 P1 I2 T2 P2 X K M) (j : Nat) (hj : j ≤ 8) : ∃ c, c ≤ max b 99999 ∧ f_X7_countOf (nI j) B N P X = some (nI c) ∧ f_X8_countOf (nI j) M = some (nI c) := by
  obtain ⟨A, H, rt, rm, oa, rp, rmp, op⟩ := h.2.1
  obtain ⟨m, hm, x0, n0, hx⟩ := h.2.2.2.2.1
  obtain ⟨a0, a1, a2, a3, a4, a5, a6, _⟩ := oa
  unfold f_X7_countOf f_X8_countOf
  simp (disch := omega) only [litI, eqN, gi_n, clN]
  have hj' : j = 0 ∨ j = 1 ∨ j = 2 ∨ j = 3 ∨ j = 4 ∨ j = 5 ∨ j = 6 ∨ j = 7 ∨ j = 8 := by omega
  rcases hj' with e | e | e | e | e | e | e | e | e
  · subst e; exact ⟨A.1 0, by omega, by rw [if_pos rfl, rt.1 0 (by omega)], by rw [if_neg (by omega), if_neg (by omega), if_neg (by omega)]; exact congrArg some (rm.2.1 0 (by omega))⟩
  · subst e; exact ⟨A.1 1, by omega, by rw [if_neg (by omega), if_pos rfl, rt.1 1 (by omega)], by rw [if_neg (by omega), if_neg (by omega), if_neg (by omega)]; exact congrArg some (rm.2.1 1 (by omega))⟩
  · subst e; exact ⟨A.1 2, by omega, by rw [if_neg (by omega), if_neg (by omega), if_pos rfl, rt.1 2 (by omega)], by rw [if_neg (by omega), if_neg (by omega), if_neg (by omega)]; exact congrArg some (rm.2.1 2 (by omega))⟩
  · subst e; exact ⟨A.1 4, by omega, by rw [if_neg (by omega), if_neg (by omega), if_neg (by omega), if_pos rfl, rt.1 4 (by omega)], by rw [if_neg (by omega), if_neg (by omega), if_neg (by omega)]; exact congrArg some (rm.2.1 4 (by omega))⟩
  · subst e; exact ⟨A.1 5, by omega, by rw [if_neg (by omega), if_neg (by omega), if_neg (by omega), if_neg (by omega), if_pos rfl, rt.1 5 (by omega)], by rw [if_neg (by omega), if_neg (by omega), if_neg (by omega)]; exact congrArg some (rm.2.1 5 (by omega))⟩
  · subst e; exact ⟨A.1 6, by omega, by rw [if_neg (by omega), if_neg (by omega), if_neg (by omega), if_neg (by omega), if_neg (by omega), if_pos rfl, rt.1 6 (by omega)], by rw [if_neg (by omega), if_neg (by omega), if_neg (by omega)]; exact congrArg some (rm.2.1 6 (by omega))⟩
  · subst e; exact ⟨A.1 3, by omega, by rw [if_neg (by omega), if_neg (by omega), if_neg (by omega), if_neg (by omega), if_neg (by omega), if_neg (by omega), if_pos rfl, rt.1 3 (by omega)], by rw [if_neg (by omega), if_neg (by omega), if_pos rfl]; exact congrArg some (rm.2.1 3 (by omega))⟩
  · subst e; exact ⟨H.1, by have := op.1; omega, by rw [if_neg (by omega), if_neg (by omega), if_neg (by omega), if_neg (by omega), if_neg (by omega), if_neg (by omega), if_neg (by omega), if_pos rfl, rp.1], by rw [if_neg (by omega), if_pos rfl]; exact congrArg some rmp.1⟩
  · subst e; exact ⟨m, by omega, by rw [if_neg (by omega), if_neg (by omega), if_neg (by omega), if_neg (by omega), if_neg (by omega), if_neg (by omega), if_neg (by omega), if_neg (by omega), x0], by rw [if_pos rfl, n0]⟩
theorem q_count (h : SR b B N P I1 T1 P1 I2 T2 P2 X K M) (x : Int32) : ∃ r B' M', f_X7_count x B N P X = some (r, B') ∧ f_X8_count x M = some (r, M') ∧ SR (b + 96) B' N P I1 T1 P1 I2 T2 P2 X K M' := by
  unfold f_X7_count f_X8_count
  rcases in_cases x 0 8 (by omega) (by omega) with ⟨j, _, hj, e, e8, e7⟩ | ⟨e8, e7⟩
  · rw [show f_X7_within x 0 8 = some 1 from e7, show f_X8_in x 0 8 = some 1 from e8]
    subst e
    obtain ⟨c, _, c7, c8⟩ := count_eq h j hj
    simp only [bn_s, if_neg i10, c7, c8]
    exact ⟨_, _, _, rfl, rfl, SR_96 h⟩
  · rw [show f_X7_within x 0 8 = some 0 from e7, show f_X8_in x 0 8 = some 0 from e8]
    simp only [bn_s, if_true, bad7, bad8]
    exact ⟨_, _, _, rfl, rfl, SR_bad h⟩
theorem gz_n {β : Type} {d : Nat} {k : Option β} (h0 : 0 < d) (hd : d < 2147483648) : gz (nI d) k = k := by
  unfold gz
  have e : ¬ nI d = nI 0 := by rw [eqN hd (by omega)]; omega
  exact if_neg e
theorem q_price (h : SR b B N P I1 T1 P1 I2 T2 P2 X K M) (x : Int32) : ∃ r B' M', f_X7_price x B N = some (r, B') ∧ f_X8_price x M = some (r, M') ∧ SR (b + 96) B' N P I1 T1 P1 I2 T2 P2 X K M' := by
  obtain ⟨A, H, rt, rm, oa, rp, rmp, op⟩ := h.2.1
  unfold f_X7_price f_X8_price f_X7_price_24
  rcases loan_cases rt rm oa x with ⟨l, hl, e, e8, e7⟩ | ⟨e8, e7⟩
  · rw [e7, e8]
    simp only [bn_s, if_neg i10]
    have a5 := oa.2.2.2.2.2.1
    obtain ⟨l1, l2, l3, l4, l5, l6, l7, l8⟩ := oa.2.2.2.2.2.2.2.2.1 l hl
    subst e
    have d1 := rm.2.2.2.1 1 (by omega) l hl
    have d2 := rm.2.2.2.1 2 (by omega) l hl
    have d4 := rm.2.2.2.1 4 (by omega) l hl
    have c4 := rt.2.2.1 4 (by omega) (by omega) l hl
    have c5 := rt.2.2.1 5 (by omega) (by omega) l hl
    have c7 := rt.2.2.1 7 (by omega) (by omega) l hl
    have d1' : (M.2.2 0) (26 + 5 * l + 1) = nI (A.2 4 l) := d1
    have d2' : (M.2.2 0) (26 + 5 * l + 2) = nI (A.2 5 l) := d2
    have d4' : (M.2.2 0) (26 + 5 * l + 4) = nI (A.2 7 l) := d4
    unfold f_X5_givenPence f_X8_given
    simp (disch := omega) only [litI, gi_n, clN, c4, c5, c7, pk_mul, nI_add, d1', d2', d4', leN, gz_n, bn_s]
    rw [if_pos l4]
    exact ⟨_, _, _, rfl, rfl, SR_96 h⟩
  · rw [e7, e8]
    simp only [bn_s, if_true, bad7, bad8]
    exact ⟨_, _, _, rfl, rfl, SR_bad h⟩
end
