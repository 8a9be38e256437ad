/-! PURE: kept and gone back to, on both sides. -/
theorem rMPast_app {A : AT} {H : AP} {t t' : Nat → Int32} {n b : Nat} (rm : rM A t) (rmp : rMPast H t) (op : okP b A H) (hn : H.1 = n) (h8 : n < 8) (g1 : t' 7 = nI (n + 1)) (g2 : ∀ k, ¬ (82 + 35 * n ≤ k ∧ k < 82 + 35 * n + 35) → k ≠ 7 → t' k = t k) (g3 : t' (82 + 35 * n) = t 0 ∧ t' (82 + 35 * n + 1) = t 6 ∧ t' (82 + 35 * n + 2) = t 2 ∧ t' (82 + 35 * n + 3) = t 3 ∧ t' (82 + 35 * n + 4) = t 4) (g4 : ∀ p, p < 6 → t' (82 + 35 * n + 5 + p) = t (8 + 3 * p + 2)) (g5 : ∀ l, l < 8 → t' (82 + 35 * n + 11 + 3 * l) = t (26 + 5 * l) ∧ t' (82 + 35 * n + 12 + 3 * l) = t (26 + 5 * l + 3) ∧ t' (82 + 35 * n + 13 + 3 * l) = t (26 + 5 * l + 4)) : rMPast (appN H (momN A)) t' := by
  have hd := rm.1
  refine ⟨by rw [g1, ← hn]; rfl, fun e (he : e < H.1 + 1) => ?_⟩
  by_cases q : e = n
  · have eE : (appN H (momN A)).2 e = momN A := by show (if e = H.1 then momN A else H.2 e) = _; rw [if_pos (by omega)]
    rw [eE]
    subst q
    refine ⟨fun k hk => ?_, fun p (hp : p < A.1 4) => ?_, fun l (hl : l < A.1 5) => ?_⟩
    · have hk' : k = 0 ∨ k = 1 ∨ k = 2 ∨ k = 3 ∨ k = 4 := by omega
      rcases hk' with q | q | q | q | q
      · subst q; rw [Nat.add_zero, g3.1]; exact rm.2.1 0 (by omega)
      · subst q; rw [g3.2.1]; exact rm.2.1 3 (by omega)
      · subst q; rw [g3.2.2.1]; exact rm.2.1 2 (by omega)
      · subst q; rw [g3.2.2.2.1]; exact rm.2.1 4 (by omega)
      · subst q; rw [g3.2.2.2.2]; exact rm.2.1 5 (by omega)
    · rw [g4 p (by omega)]; exact rm.2.2.1 2 (by omega) p hp
    · obtain ⟨y1, y2, y3⟩ := g5 l (by omega)
      rw [y1, y2, y3]
      exact ⟨rm.2.2.2.1 0 (by omega) l hl, rm.2.2.2.1 3 (by omega) l hl, rm.2.2.2.1 4 (by omega) l hl⟩
  · have eE : (appN H (momN A)).2 e = H.2 e := by show (if e = H.1 then momN A else H.2 e) = _; rw [if_neg (by omega)]
    rw [eE]
    obtain ⟨o0, o1, o2, o3, o4, o5⟩ := op.2 e (by omega)
    obtain ⟨x1, x2, x3⟩ := rmp.2 e (by omega)
    refine ⟨fun k hk => ?_, fun p hp => ?_, fun l hl => ?_⟩
    · rw [g2 _ (by omega) (by omega)]; exact x1 k hk
    · rw [g2 _ (by omega) (by omega)]; exact x2 p hp
    · rw [g2 _ (by omega) (by omega), g2 _ (by omega) (by omega), g2 _ (by omega) (by omega)]; exact x3 l hl
theorem m_knows43 {M : Ms} {t : Nat → Int32} (h7 : t 7 = nI 8) : f_X8_knows_43 (tN M t) = f_X8_knows_54 (tN M (upd t 7 (nI 7))) := by
  unfold f_X8_knows_43
  rw [show (7 : Int32) = nI 7 from rfl, show (1 : Int32) = nI 1 from rfl, gi_n (by omega) (by omega), gi_n (by omega) (by omega), lett_d, tN_0, clN (by omega), h7, tN_t, subN (by omega)]
theorem mom_fix {A : AT} {t : Nat → Int32} : momN (fixR A t) = momN A := by
  unfold momN
  rw [fixR_j (by omega), fixR_j (by omega), fixR_j (by omega), fixR_j (by omega)]
  rfl
theorem m_knows {b : Nat} {A : AT} {H : AP} {M : Ms} (rm : rM A (M.2.2 0)) (rmp : rMPast H (M.2.2 0)) (op : okP b A H) : ok (fun M' => ∃ t', M' = tN M t' ∧ (∀ k, k < 82 → k ≠ 7 → t' k = M.2.2 0 k) ∧ rMPast (appN (shiftN H) (momN A)) t') (f_X8_knows M) := by
  have h8 := op.1
  have h7 := rmp.1
  unfold f_X8_knows
  simp (disch := omega) only [litI, gi_n, clN, h7, eqN, lett_d]
  by_cases e : H.1 = 8
  · rw [if_pos e]
    have es : shiftN H = (7, fun e => H.2 (e + 1)) := if_neg (by omega)
    have hos := (okP_shift op).1
    unfold l_X8_knows_15
    have start : (nI 82, M) = (nI (82 + 0), tN M (M.2.2 0)) := by rw [tN_self]
    rw [start]
    refine itr_rel (fun i z => ∃ t', z = (nI (82 + i), tN M t') ∧ (∀ k, k < 82 → t' k = M.2.2 0 k) ∧ (∀ k, 82 + i ≤ k → t' k = M.2.2 0 k) ∧ ∀ k, 82 ≤ k → k < 82 + i → t' k = M.2.2 0 (k + 35)) _ 245 ?_ FU 0 _ ⟨_, rfl, fun _ _ => rfl, fun _ _ => rfl, fun k a c => by omega⟩ (Nat.zero_le _) (by rw [FU_d]; omega)
    rintro i z hi ⟨t', rfl, h1, h2, h3⟩
    by_cases hlt : i < 245
    · left
      refine ⟨hlt, (nI (82 + (i + 1)), tN M (upd t' (82 + i) (t' (82 + i + 35)))), ⟨_, rfl, fun k hk => ?_, fun k hk => ?_, fun k hk hk2 => ?_⟩, fun k => ?_⟩
      · rw [up_n (by omega)]; exact h1 k hk
      · rw [up_n (by omega)]; exact h2 k (by omega)
      · by_cases q : k = 82 + i
        · subst q; rw [up_s, h2 _ (by omega)]
        · rw [up_n q]; exact h3 k hk (by omega)
      · show f_X8_knows_15 (nI (82 + i)) (tN M t') _ _ = _
        unfold f_X8_knows_15
        simp (disch := omega) only [litI, leN, nI_add, gi_n, clN, lett_d, tN, vu_vu, vu_s]
        rw [if_neg (by omega), Nat.add_assoc]
    · right
      have e6 : i = 245 := by omega
      subst e6
      refine ⟨f_X8_knows_43 (tN M t'), ?_, fun k => ?_⟩
      · have t7 : t' 7 = nI 8 := by rw [h1 7 (by omega), h7, e]
        rw [m_knows43 t7]
        have n7 : upd t' 7 (nI 7) 7 = nI 7 := up_s
        refine ok_mono (m_knows54 (M := M) n7 (by omega)) ?_
        rintro M' ⟨t2, e2, g1, g2, g3, g4, g5⟩
        refine ⟨t2, e2, fun k hk hk7 => ?_, ?_⟩
        · rw [g2 k (by omega) hk7, up_n hk7, h1 k hk]
        · rw [es]
          have rm5 : rM5 A (upd t' 7 (nI 7)) := by
            have hd := rm.1
            refine ⟨rm.1, fun k hk => ?_, fun j hj p hp => ?_, fun j hj p hp => ?_, fun j hj p hp => ?_⟩
            · have := ixS_le hk
              rw [up_n (by omega), h1 _ (by omega)]; exact rm.2.1 k hk
            · rw [up_n (by omega), h1 _ (by omega)]; exact rm.2.2.1 j hj p hp
            · rw [up_n (by omega), h1 _ (by omega)]; exact rm.2.2.2.1 j hj p hp
            · rw [up_n (by omega), h1 _ (by omega)]; exact rm.2.2.2.2.1 j hj p hp
          have hm : momN (fixR A (upd t' 7 (nI 7))) = momN A := mom_fix
          rw [← hm]
          refine rMPast_app (b := b) (n := 7) (rM_fix rm5) ?_ ?_ rfl (by omega) g1 g2 g3 g4 g5
          · refine ⟨up_s, fun i (hi : i < 7) => ?_⟩
            obtain ⟨o0, o1, o2, o3, o4, o5⟩ := op.2 (i + 1) (by omega)
            obtain ⟨x1, x2, x3⟩ := rmp.2 (i + 1) (by omega)
            have hd := rm.1
            refine ⟨fun k hk => ?_, fun p hp => ?_, fun l hl => ?_⟩
            · rw [up_n (by omega), h3 _ (by omega) (by omega), ← x1 k hk]
              exact congrArg _ (by omega)
            · have hp' : p < (H.2 (i + 1)).1 3 := hp
              rw [up_n (by omega), h3 _ (by omega) (by omega), ← x2 p hp]
              exact congrArg _ (by omega)
            · have hl' : l < (H.2 (i + 1)).1 4 := hl
              obtain ⟨y1, y2, y3⟩ := x3 l hl
              rw [up_n (by omega), h3 _ (by omega) (by omega), up_n (by omega), h3 _ (by omega) (by omega), up_n (by omega), h3 _ (by omega) (by omega)]
              refine ⟨?_, ?_, ?_⟩
              · rw [← y1]; exact congrArg _ (by omega)
              · rw [← y2]; exact congrArg _ (by omega)
              · rw [← y3]; exact congrArg _ (by omega)
          · rw [es] at hos
            exact okP_mono hos (Nat.le_refl _) (Nat.le_refl _) (Nat.le_refl _) (fun l _ => by rw [fixR_j (by omega)])
      · show f_X8_knows_15 (nI (82 + 245)) (tN M t') _ _ = _
        unfold f_X8_knows_15
        simp (disch := omega) only [litI, leN]
        rw [if_pos (by omega)]
  · rw [if_neg e]
    have es : shiftN H = H := if_pos (by omega)
    rw [es]
    have k5 := m_knows54 (M := M) h7 (by omega)
    rw [tN_self] at k5
    refine ok_mono k5 ?_
    rintro M' ⟨t', e', g1, g2, g3, g4, g5⟩
    exact ⟨t', e', fun k hk h7 => g2 k (by omega) h7, rMPast_app rm rmp op rfl (by omega) g1 g2 g3 g4 g5⟩
/-- both keep what is now -/
theorem keep_both {b : Nat} {A : AT} {T : Tw} {H : AP} {P : Ps} {M : Ms} (rt : rT A T) (rm : rM A (M.2.2 0)) (oa : okA b A) (rp : rPast H P) (rmp : rMPast H (M.2.2 0)) (op : okP b A H) : ∃ P' t' A' H', f_X3_keep P T = some P' ∧ f_X8_knows M = some (tN M t') ∧ (A'.1 = A.1 ∧ ∀ j, j < 10 → A'.2 j = A.2 j) ∧ rT A' T ∧ rM A' t' ∧ okA b A' ∧ rPast H' P' ∧ rMPast H' t' ∧ okP b A' H' := by
  obtain ⟨P', e1, hp⟩ := s_keep rt oa rp op
  obtain ⟨M', e2, t', rfl, g1, g2⟩ := m_knows rm rmp op
  have hd := rm.1
  have rm5 : rM5 A t' := by
    refine ⟨hd, fun k hk => ?_, fun j hj p hp => ?_, fun j hj p hp => ?_, fun j hj p hp => ?_⟩
    · have h6 := ixS_le hk
      rw [g1 _ (by omega) (by omega)]; exact rm.2.1 k hk
    · rw [g1 _ (by omega) (by omega)]; exact rm.2.2.1 j hj p hp
    · rw [g1 _ (by omega) (by omega)]; exact rm.2.2.2.1 j hj p hp
    · rw [g1 _ (by omega) (by omega)]; exact rm.2.2.2.2.1 j hj p hp
  have os := okP_shift op
  refine ⟨P', t', fixR A t', appN (shiftN H) (momN A), e1, e2, ⟨rfl, fun j hj => fixR_j (by omega)⟩, rT_fix rt, rM_fix rm5, okA_fix oa, hp, g2, ?_⟩
  exact okP_mono (okP_app os.1 os.2 (okE_mom oa)) (Nat.le_refl _) (Nat.le_refl _) (Nat.le_refl _) (fun l _ => by rw [fixR_j (by omega)])
/-- back to the moment E: who and what came since stays as it is -/
def backN (A : AT) (E : AE) : AT := (fun k => if k = 0 then E.1 0 else if k = 3 then E.1 1 else if k = 2 then E.1 2 else A.1 k, fun j k => if j = 2 then (if k < E.1 3 then E.2 0 k else A.2 2 k) else if j = 3 then (if k < E.1 4 then E.2 1 k else A.2 3 k) else if j = 6 then (if k < E.1 4 then E.2 2 k else A.2 6 k) else if j = 7 then (if k < E.1 4 then E.2 3 k else A.2 7 k) else A.2 j k)
theorem okA_back {b : Nat} {A : AT} {E : AE} (h : okA b A) (hE : okE b A E) : okA b (backN A E) := by
  obtain ⟨a0, a1, a2, a3, a4, a5, a6, a7, a8, a9⟩ := h
  obtain ⟨o0, o1, o2, o3, o4, o5, o6⟩ := hE
  refine ⟨o0, a1, o2, o1, a4, a5, a6, fun p (hp : p < A.1 4) => ?_, fun l (hl : l < A.1 5) => ?_, a9⟩
  · refine ⟨(a7 p hp).1, (a7 p hp).2.1, ?_⟩
    show (if p < E.1 3 then E.2 0 p else A.2 2 p) ≤ 9999
    by_cases e : p < E.1 3
    · rw [if_pos e]; exact o5 p e
    · rw [if_neg e]; exact (a7 p hp).2.2
  · obtain ⟨l1, l2, l3, l4, l5, l6, l7, l8⟩ := a8 l hl
    show (if l < E.1 4 then E.2 1 l else A.2 3 l) < A.1 4 ∧ 1 ≤ A.2 4 l ∧ A.2 4 l ≤ 99 ∧ 1 ≤ A.2 5 l ∧ A.2 5 l ≤ 12 ∧ (if l < E.1 4 then E.2 2 l else A.2 6 l) ≤ 4 ∧ (if l < E.1 4 then E.2 3 l else A.2 7 l) ≤ A.2 5 l ∧ ((if l < E.1 4 then E.2 2 l else A.2 6 l) = 0 → (if l < E.1 4 then E.2 3 l else A.2 7 l) < A.2 5 l)
    by_cases e : l < E.1 4
    · simp only [if_pos e]
      obtain ⟨q1, q2, q3, q4⟩ := o6 l e
      exact ⟨by omega, l2, l3, l4, l5, q2, q3, q4⟩
    · simp only [if_neg e]
      exact ⟨l1, l2, l3, l4, l5, l6, l7, l8⟩
theorem minN {a c : Nat} (h : a ≤ c) (hc : c < 2147483648) : (if nI c < nI a then nI c else nI a) = nI a := if_neg (by rw [ltN hc (by omega)]; omega)
theorem s_goBack {b : Nat} {A : AT} {T : Tw} {H : AP} {P : Ps} (rt : rT A T) (oa : okA b A) (rp : rPast H P) (op : okP b A H) (h0 : 0 < H.1) : ok (fun r => rPast (H.1 - 1, H.2) r.1 ∧ rT (backN A (H.2 (H.1 - 1))) r.2) (f_X3_goBack P T) := by
  have h8 := op.1
  obtain ⟨o0, o1, o2, o3, o4, o5, o6⟩ := op.2 (H.1 - 1) (by omega)
  obtain ⟨x1, x2, x3⟩ := rp.2 (H.1 - 1) (by omega)
  have a4 := oa.2.2.2.2.1
  have a5 := oa.2.2.2.2.2.1
  unfold f_X3_goBack
  have hc : ((0 : Int32) < P.1) = (0 < H.1) := by rw [rp.1]; exact ltN (a := 0) (by omega) (by omega)
  rw [if_pos (hc.mpr h0)]
  have y0 := x1 0 (by omega)
  have y1 := x1 1 (by omega)
  have y2 := x1 2 (by omega)
  have y3 := x1 3 (by omega)
  have y4 := x1 4 (by omega)
  rw [Nat.mul_comm, Nat.add_zero] at y0
  rw [Nat.mul_comm] at y1 y2 y3 y4
  generalize hE : H.2 (H.1 - 1) = E at *
  simp (disch := omega) only [litI, rp.1, subN, pk_mul, nI_add, gi_n, clN, y0, y1, y2, y3, y4, minN, gcN, lett_d]
  refine ok_s ⟨⟨rfl, fun e (he : e < H.1 - 1) => rp.2 e (by omega)⟩, ?_⟩
  refine ⟨fun k hk => ?_, fun j hj p (hp : p < A.1 4) => ?_, fun j hj hj2 l (hl : l < A.1 5) => ?_, fun j hj hj2 o ho => ?_⟩
  · show upd (upd (upd T.1 0 (nI (E.1 0))) 3 (nI (E.1 1))) 2 (nI (E.1 2)) k = nI (if k = 0 then E.1 0 else if k = 3 then E.1 1 else if k = 2 then E.1 2 else A.1 k)
    unfold upd
    by_cases q2 : k = 2
    · rw [if_pos q2, if_neg (by omega), if_neg (by omega), if_pos q2]
    · rw [if_neg q2]
      by_cases q3 : k = 3
      · rw [if_pos q3, if_neg (by omega), if_pos q3]
      · rw [if_neg q3]
        by_cases q0 : k = 0
        · rw [if_pos q0, if_pos q0]
        · rw [if_neg q0, if_neg q0, if_neg q3, if_neg q2]; exact rt.1 k hk
  · have hj' : j = 0 ∨ j = 1 ∨ j = 2 := by omega
    rcases hj' with q | q | q
    · subst q
      simp (disch := omega) only [vu_n]
      exact rt.2.1 0 (by omega) p hp
    · subst q
      simp (disch := omega) only [vu_n]
      exact rt.2.1 1 (by omega) p hp
    · subst q
      simp (disch := omega) only [vu_n, vu_s]
      show _ = nI (if p < E.1 3 then E.2 0 p else A.2 2 p)
      by_cases q : p < E.1 3
      · rw [if_pos q, cpy_in (by omega) (by omega), ← x2 p q]
        exact congrArg _ (by omega)
      · rw [if_neg q, cpy_out (by omega)]; exact rt.2.1 2 (by omega) p hp
  · have hj' : j = 3 ∨ j = 4 ∨ j = 5 ∨ j = 6 ∨ j = 7 := by omega
    rcases hj' with q | q | q | q | q
    · subst q
      simp (disch := omega) only [vu_n, vu_s]
      show _ = nI (if l < E.1 4 then E.2 1 l else A.2 3 l)
      by_cases q : l < E.1 4
      · rw [if_pos q, cpy_in (by omega) (by omega), ← (x3 l q).1]
        exact congrArg _ (by omega)
      · rw [if_neg q, cpy_out (by omega)]; exact rt.2.2.1 3 (by omega) (by omega) l hl
    · subst q
      simp (disch := omega) only [vu_n]
      exact rt.2.2.1 4 (by omega) (by omega) l hl
    · subst q
      simp (disch := omega) only [vu_n]
      exact rt.2.2.1 5 (by omega) (by omega) l hl
    · subst q
      simp (disch := omega) only [vu_n, vu_s]
      show _ = nI (if l < E.1 4 then E.2 2 l else A.2 6 l)
      by_cases q : l < E.1 4
      · rw [if_pos q, cpy_in (by omega) (by omega), ← (x3 l q).2.1]
        exact congrArg _ (by omega)
      · rw [if_neg q, cpy_out (by omega)]; exact rt.2.2.1 6 (by omega) (by omega) l hl
    · subst q
      simp (disch := omega) only [vu_n, vu_s]
      show _ = nI (if l < E.1 4 then E.2 3 l else A.2 7 l)
      by_cases q : l < E.1 4
      · rw [if_pos q, cpy_in (by omega) (by omega), ← (x3 l q).2.2]
        exact congrArg _ (by omega)
      · rw [if_neg q, cpy_out (by omega)]; exact rt.2.2.1 7 (by omega) (by omega) l hl
  · have hj' : j = 8 ∨ j = 9 := by omega
    rcases hj' with q | q
    · subst q
      simp (disch := omega) only [vu_n]
      exact rt.2.2.2 8 (by omega) (by omega) o ho
    · subst q
      simp (disch := omega) only [vu_n]
      exact rt.2.2.2 9 (by omega) (by omega) o ho
