/-! PURE: copies, images. -/
theorem gcN {β : Type} {a c n n0 n1 : Nat} {k : Option β} (h0 : a + n ≤ n0) (h1 : c + n ≤ n1) (b0 : n0 < 2147483648) (b1 : n1 < 2147483648) : gc (nI a) (nI c) (nI n) n0 n1 k = k := by
  unfold gc
  simp (disch := omega) only [litI, clN, ltN]
  rw [if_pos (by omega)]
def wR (j : Nat) : Nat := if j < 3 then 6 else 8
/-- the first k numbers and j rows are the other's -/
def Cp (O T : Tw) (k j : Nat) : Prop := (∀ i, i < k → T.1 i = O.1 i) ∧ ∀ i, i < j → ∀ p, p < wR i → T.2 i p = O.2 i p
theorem cpS {O T : Tw} {k : Nat} (h : Cp O T k 0) : Cp O (upd T.1 k (O.1 k), T.2) (k + 1) 0 := by
  refine ⟨fun i hi => ?_, fun i hi => absurd hi (Nat.not_lt_zero _)⟩
  show upd T.1 k (O.1 k) i = _
  by_cases e : i = k
  · subst e; exact up_s
  · rw [up_n e]; exact h.1 i (by omega)
theorem cpA {O T : Tw} {k j n : Nat} (h : Cp O T k j) (hn : wR j ≤ n) : Cp O (T.1, va_up T.2 j (va_cpy (O.2 j) (T.2 j) 0 0 n)) k (j + 1) := by
  refine ⟨h.1, fun i hi p hp => ?_⟩
  show va_up T.2 j (va_cpy (O.2 j) (T.2 j) 0 0 n) i p = _
  by_cases e : i = j
  · subst e
    rw [vu_s]
    unfold va_cpy
    rw [if_pos (by omega), Nat.zero_add, Nat.sub_zero]
  · rw [vu_n e]; exact h.2 i (by omega) p hp
theorem s_copy (T O : Tw) : ok (fun T' => Cp O T' 7 10) (f_X5_copyFrom T O) := by
  unfold f_X5_copyFrom
  simp (disch := omega) only [litI, gcN, clN]
  have c0 : Cp O T 0 0 := ⟨fun i hi => absurd hi (Nat.not_lt_zero _), fun i hi => absurd hi (Nat.not_lt_zero _)⟩
  refine ok_lett (fun T1 h1 => ?_)
  have c1 : Cp O T1 1 0 := by rw [h1]; exact cpS c0
  refine ok_lett (fun T2 h2 => ?_)
  have c2 : Cp O T2 2 0 := by rw [h2]; exact cpS c1
  refine ok_lett (fun T3 h3 => ?_)
  have c3 : Cp O T3 3 0 := by rw [h3]; exact cpS c2
  refine ok_lett (fun T4 h4 => ?_)
  have c4 : Cp O T4 4 0 := by rw [h4]; exact cpS c3
  refine ok_lett (fun T5 h5 => ?_)
  have c5 : Cp O T5 5 0 := by rw [h5]; exact cpS c4
  refine ok_lett (fun T6 h6 => ?_)
  have c6 : Cp O T6 6 0 := by rw [h6]; exact cpS c5
  refine ok_lett (fun T7 h7 => ?_)
  have c7 : Cp O T7 7 0 := by rw [h7]; exact cpS c6
  refine ok_lett (fun U0 g0 => ?_)
  have d0 : Cp O U0 7 1 := by rw [g0]; exact cpA c7 (by decide)
  refine ok_lett (fun U1 g1 => ?_)
  have d1 : Cp O U1 7 2 := by rw [g1]; exact cpA d0 (by decide)
  refine ok_lett (fun U2 g2 => ?_)
  have d2 : Cp O U2 7 3 := by rw [g2]; exact cpA d1 (by decide)
  refine ok_lett (fun U3 g3 => ?_)
  have d3 : Cp O U3 7 4 := by rw [g3]; exact cpA d2 (by decide)
  refine ok_lett (fun U4 g4 => ?_)
  have d4 : Cp O U4 7 5 := by rw [g4]; exact cpA d3 (by decide)
  refine ok_lett (fun U5 g5 => ?_)
  have d5 : Cp O U5 7 6 := by rw [g5]; exact cpA d4 (by decide)
  refine ok_lett (fun U6 g6 => ?_)
  have d6 : Cp O U6 7 7 := by rw [g6]; exact cpA d5 (by decide)
  refine ok_lett (fun U7 g7 => ?_)
  have d7 : Cp O U7 7 8 := by rw [g7]; exact cpA d6 (by decide)
  refine ok_lett (fun U8 g8 => ?_)
  have d8 : Cp O U8 7 9 := by rw [g8]; exact cpA d7 (by decide)
  refine ok_lett (fun U9 g9 => ?_)
  have d9 : Cp O U9 7 10 := by rw [g9]; exact cpA d8 (by decide)
  exact ok_s d9
theorem rT_cp {A : AT} {O T : Tw} (h : rT A O) (hc : Cp O T 7 10) (hd : A.1 4 ≤ 6 ∧ A.1 5 ≤ 8 ∧ A.1 6 ≤ 8) : rT A T := by
  refine ⟨fun k hk => by rw [hc.1 k hk]; exact h.1 k hk, fun j hj p hp => ?_, fun j hj hj2 p hp => ?_, fun j hj hj2 p hp => ?_⟩
  · rw [hc.2 j (by omega) p (by unfold wR; rw [if_pos hj]; omega)]; exact h.2.1 j hj p hp
  · rw [hc.2 j (by omega) p (by unfold wR; rw [if_neg (by omega)]; omega)]; exact h.2.2.1 j hj hj2 p hp
  · rw [hc.2 j (by omega) p (by unfold wR; rw [if_neg (by omega)]; omega)]; exact h.2.2.2 j hj hj2 p hp
theorem s_pcopy (P O : Ps) : ok (fun P' => P'.1 = O.1 ∧ ∀ k, k < 280 → P'.2 k = O.2 k) (f_X3_copyFrom P O) := by
  unfold f_X3_copyFrom
  simp (disch := omega) only [litI, gcN, clN, lett_d]
  refine ok_s ⟨rfl, fun k hk => ?_⟩
  show va_cpy O.2 P.2 0 0 280 k = _
  unfold va_cpy
  rw [if_pos (by omega), Nat.zero_add, Nat.sub_zero]
theorem m_copy {na nb a c : Nat} (ta tb : Nat → Int32) (ha : a + 362 ≤ na) (hc : c + 362 ≤ nb) (hna : na < 1000000) (hnb : nb < 1000000) : f_X8_copy na nb (nI a) (nI c) ta tb = some (va_cpy ta tb a c 362) := by
  unfold f_X8_copy
  rw [lett_d, litI]
  unfold l_X8_copy_3
  have e0 : tb = va_cpy ta tb a c 0 := by
    funext k
    unfold va_cpy
    rw [if_neg (by omega)]
  have start : (nI 0, tb) = (fun i => (nI i, va_cpy ta tb a c i)) 0 := by
    show (nI 0, tb) = (nI 0, va_cpy ta tb a c 0)
    rw [← e0]
  rw [start]
  refine itr_st (fun i => (nI i, va_cpy ta tb a c i)) _ 362 ?_ ?_ FU 0 (by omega) (by rw [FU_d]; omega)
  · intro i k hi
    show f_X8_copy_3 na nb (nI a) (nI c) (nI i) ta (va_cpy ta tb a c i) (fun x4 tb => k (x4, tb)) = _
    unfold f_X8_copy_3
    simp (disch := omega) only [litI, leN, nI_add, gi_n, clN, lett_d]
    rw [if_neg (by omega)]
    have e : upd (va_cpy ta tb a c i) (c + i) (ta (a + i)) = va_cpy ta tb a c (i + 1) := by
      funext q
      unfold upd va_cpy
      by_cases e1 : q = c + i
      · rw [if_pos e1, if_pos (by omega), e1]
        congr 2; omega
      · rw [if_neg e1]
        by_cases e2 : c ≤ q ∧ q < c + i
        · rw [if_pos e2, if_pos (by omega)]
        · rw [if_neg e2, if_neg (by omega)]
    rw [e]
  · intro k
    show f_X8_copy_3 na nb (nI a) (nI c) (nI 362) ta (va_cpy ta tb a c 362) (fun x4 tb => k (x4, tb)) = _
    unfold f_X8_copy_3
    simp (disch := omega) only [litI, leN]
    rw [if_pos (by omega)]
theorem SRt_ext {b : Nat} {T T' : Tw} {P P' : Ps} {t t' : Nat → Int32} (h : SRt b T P t) (ht : Cp T T' 7 10) (hp : P'.1 = P.1 ∧ ∀ k, k < 280 → P'.2 k = P.2 k) (hm : ∀ k, k < 362 → t' k = t k) : SRt b T' P' t' := by
  obtain ⟨A, H, rt, rm, oa, rp, rmp, op⟩ := h
  have hd := rm.1
  have h8 := op.1
  have r5 : rM5 A t' := by
    refine ⟨hd, fun k hk => ?_, fun j hj p hp => ?_, fun j hj p hp => ?_, fun j hj p hp => ?_⟩
    · have := ixS_le hk
      rw [hm _ (by omega)]; exact rm.2.1 k hk
    · rw [hm _ (by omega)]; exact rm.2.2.1 j hj p hp
    · rw [hm _ (by omega)]; exact rm.2.2.2.1 j hj p hp
    · rw [hm _ (by omega)]; exact rm.2.2.2.2.1 j hj p hp
  refine ⟨fixR A t', H, rT_fix (rT_cp rt ht hd), rM_fix r5, okA_fix oa, ⟨by rw [hp.1]; exact rp.1, fun e he => ?_⟩, ⟨by rw [hm 7 (by omega)]; exact rmp.1, fun e he => ?_⟩, okP_mono op (Nat.le_refl _) (Nat.le_refl _) (Nat.le_refl _) (fun l _ => by rw [fixR_j (by omega)])⟩
  · obtain ⟨o0, o1, o2, o3, o4, o5⟩ := op.2 e he
    obtain ⟨a, c, d⟩ := rp.2 e he
    refine ⟨fun k hk => ?_, fun p hp' => ?_, fun l hl => ?_⟩
    · rw [hp.2 _ (by omega)]; exact a k hk
    · rw [hp.2 _ (by omega)]; exact c p hp'
    · rw [hp.2 _ (by omega), hp.2 _ (by omega), hp.2 _ (by omega)]; exact d l hl
  · obtain ⟨o0, o1, o2, o3, o4, o5⟩ := op.2 e he
    obtain ⟨a, c, d⟩ := rmp.2 e he
    refine ⟨fun k hk => ?_, fun p hp' => ?_, fun l hl => ?_⟩
    · rw [hm _ (by omega)]; exact a k hk
    · rw [hm _ (by omega)]; exact c p hp'
    · rw [hm _ (by omega), hm _ (by omega), hm _ (by omega)]; exact d l hl
theorem bool_1 : vp_nar .boolean (1 : Int32) = 1 := by decide +kernel
section
variable {b : Nat} {B : Nat → Int32} {N : Tw} {P : Ps} {I1 : Int32} {T1 : Tw} {P1 : Ps} {I2 : Int32} {T2 : Tw} {P2 : Ps} {X : Tx} {K : Ch} {M : Ms}
theorem q_image (h : SR b B N P I1 T1 P1 I2 T2 P2 X K M) (x : Int32) : ∃ r B' I1' T1' P1' I2' T2' P2' M', f_X7_image x B N P I1 T1 P1 I2 T2 P2 = some (r, B', I1', T1', P1', I2', T2', P2') ∧ f_X8_image x M = some (r, M') ∧ SR (b + 96) B' N P I1' T1' P1' I2' T2' P2' X K M' := by
  unfold f_X7_image f_X8_image
  rcases in_cases x 0 1 (by omega) (by omega) with ⟨j, _, hj, e, e8, e7⟩ | ⟨e8, e7⟩
  · rw [show f_X7_within x 0 1 = some 1 from e7, show f_X8_in x 0 1 = some 1 from e8]
    subst e
    simp only [bn_s, if_neg i10, bool_1]
    simp (disch := omega) only [litI, pk_mul, eqN, gi_n, clN]
    rw [m_copy (M.2.2 0) (M.2.2 3) (show 0 + 362 ≤ 362 by omega) (show 362 * j + 362 ≤ 724 by omega) (by omega) (by omega)]
    simp only [bn_s, lett_d]
    obtain ⟨h1, h2, h3, h4, h5, h6⟩ := SR_96 h
    by_cases e0 : j = 0
    · rw [if_pos e0]
      subst e0
      obtain ⟨T', eT, cT⟩ := s_copy T1 N
      obtain ⟨P', eP, cP⟩ := s_pcopy P1 P
      rw [eT, eP]
      simp only [bn_s]
      refine ⟨_, _, _, _, _, _, _, _, _, rfl, rfl, ?_⟩
      refine ⟨h1, h2, Or.inr ⟨rfl, ?_, ?_⟩, ?_, h5, h6⟩
      · simp only [vu_s, up_s]; rfl
      · refine SRt_ext h2 cT cP (fun k hk => ?_)
        simp only [vu_s, vu_n (show (3 : Nat) ≠ 4 by omega)]
        unfold va_cpy
        rw [if_pos (by omega)]
        exact congrArg _ (by omega)
      · simp only [vu_s, vu_n (show (3 : Nat) ≠ 4 by omega), vu_n (show (4 : Nat) ≠ 3 by omega), up_n (show (1 : Nat) ≠ 0 by omega)]
        have e : (fun q => va_cpy (M.2.2 0) (M.2.2 3) 0 (362 * 0) 362 (362 + q)) = fun q => M.2.2 3 (362 + q) := by
          funext q
          unfold va_cpy
          rw [if_neg (by omega)]
        rw [e]
        exact h4
    · rw [if_neg e0]
      have e1 : j = 1 := by omega
      subst e1
      obtain ⟨T', eT, cT⟩ := s_copy T2 N
      obtain ⟨P', eP, cP⟩ := s_pcopy P2 P
      rw [eT, eP]
      simp only [bn_s]
      refine ⟨_, _, _, _, _, _, _, _, _, rfl, rfl, ?_⟩
      refine ⟨h1, h2, ?_, Or.inr ⟨rfl, ?_, ?_⟩, h5, h6⟩
      · simp only [vu_s, vu_n (show (3 : Nat) ≠ 4 by omega), vu_n (show (4 : Nat) ≠ 3 by omega), up_n (show (0 : Nat) ≠ 1 by omega)]
        rcases h3 with h3 | ⟨g1, g2, g3⟩
        · exact Or.inl h3
        · refine Or.inr ⟨g1, g2, SRt_ext g3 ⟨fun _ _ => rfl, fun _ _ _ _ => rfl⟩ ⟨rfl, fun _ _ => rfl⟩ (fun k hk => ?_)⟩
          unfold va_cpy
          rw [if_neg (by omega)]
      · simp only [vu_s, up_s]; rfl
      · refine SRt_ext h2 cT cP (fun k hk => ?_)
        simp only [vu_s, vu_n (show (3 : Nat) ≠ 4 by omega)]
        unfold va_cpy
        rw [if_pos (by omega)]
        exact congrArg _ (by omega)
  · rw [show f_X7_within x 0 1 = some 0 from e7, show f_X8_in x 0 1 = some 0 from e8]
    simp only [bn_s, if_true, bad7, bad8]
    exact ⟨_, _, _, _, _, _, _, _, _, rfl, rfl, SR_bad h⟩
theorem from_one (h : SR b B N P I1 T1 P1 I2 T2 P2 X K M) {T' : Tw} {P' : Ps} {a : Nat} (ha : a + 362 ≤ 724) (hs : SRt b T' P' (fun j => M.2.2 3 (a + j))) : ∃ N' P'' , f_X5_copyFrom N T' = some N' ∧ f_X3_copyFrom P P' = some P'' ∧ SR (b + 96) B N' P'' I1 T1 P1 I2 T2 P2 X K (M.1, M.2.1, va_up M.2.2 0 (va_cpy (M.2.2 3) (M.2.2 0) a 0 362)) := by
  obtain ⟨N', eT, cT⟩ := s_copy N T'
  obtain ⟨P'', eP, cP⟩ := s_pcopy P P'
  refine ⟨N', P'', eT, eP, SR_now h (by omega) (SRt_mono (SRt_ext hs cT cP (fun k hk => ?_)) (by omega))⟩
  unfold va_cpy
  rw [if_pos (by omega), Nat.sub_zero]
theorem q_from (h : SR b B N P I1 T1 P1 I2 T2 P2 X K M) (x : Int32) : ∃ r B' N' P' M', f_X7_from x B N P I1 T1 P1 I2 T2 P2 = some (r, B', N', P') ∧ f_X8_from x M = some (r, M') ∧ SR (b + 96) B' N' P' I1 T1 P1 I2 T2 P2 X K M' := by
  unfold f_X7_from f_X8_from
  rcases in_cases x 0 1 (by omega) (by omega) with ⟨j, _, hj, e, e8, e7⟩ | ⟨e8, e7⟩
  · rw [show f_X7_within x 0 1 = some 1 from e7, show f_X8_in x 0 1 = some 1 from e8]
    subst e
    simp only [bn_s, if_neg i10]
    by_cases e0 : j = 0
    · subst e0
      rw [if_pos (show nI 0 = 0 from rfl)]
      simp (disch := omega) only [gi_n, clN]
      rcases h.2.2.1 with ⟨g1, g2⟩ | ⟨g1, g2, g3⟩
      · rw [if_pos g1, if_pos g2]
        simp only [no7, no8, bn_s]
        exact ⟨_, _, _, _, _, rfl, rfl, SR_no h⟩
      · rw [if_neg (by rw [g1]; exact i10), if_neg (by rw [g2]; exact i10)]
        simp (disch := omega) only [litI, pk_mul, Nat.mul_zero, Nat.mul_one]
        rw [m_copy (M.2.2 3) (M.2.2 0) (show 0 + 362 ≤ 724 by omega) (show 0 + 362 ≤ 362 by omega) (by omega) (by omega)]
        obtain ⟨N', P'', e1, e2, h'⟩ := from_one h (a := 0) (by omega) (by simp only [Nat.zero_add]; exact g3)
        rw [e1, e2]
        simp only [bn_s, lett_d]
        exact ⟨_, _, _, _, _, rfl, rfl, h'⟩
    · have e1 : j = 1 := by omega
      subst e1
      rw [if_neg (show ¬ nI 1 = 0 from i10)]
      simp (disch := omega) only [gi_n, clN]
      rcases h.2.2.2.1 with ⟨g1, g2⟩ | ⟨g1, g2, g3⟩
      · rw [if_pos g1, if_pos g2]
        simp only [no7, no8, bn_s]
        exact ⟨_, _, _, _, _, rfl, rfl, SR_no h⟩
      · rw [if_neg (by rw [g1]; exact i10), if_neg (by rw [g2]; exact i10)]
        simp (disch := omega) only [litI, pk_mul, Nat.mul_zero, Nat.mul_one]
        rw [m_copy (M.2.2 3) (M.2.2 0) (show 362 + 362 ≤ 724 by omega) (show 0 + 362 ≤ 362 by omega) (by omega) (by omega)]
        obtain ⟨N', P'', e1, e2, h'⟩ := from_one h (a := 362) (by omega) g3
        rw [e1, e2]
        simp only [bn_s, lett_d]
        exact ⟨_, _, _, _, _, rfl, rfl, h'⟩
  · rw [show f_X7_within x 0 1 = some 0 from e7, show f_X8_in x 0 1 = some 0 from e8]
    simp only [bn_s, if_true, bad7, bad8]
    exact ⟨_, _, _, _, _, rfl, rfl, SR_bad h⟩
end
