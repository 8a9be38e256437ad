/-! PURE: the model goes back. -/
theorem m_undo124 {M : Ms} {t : Nat → Int32} {e c : Nat} (he : 82 ≤ e) (he2 : e + 35 ≤ 362) (hc : t (e + 4) = nI c) (h8 : c ≤ 8) : ok (fun r => ∃ t', r = (1, tN M t') ∧ (∀ k, ¬ (26 ≤ k ∧ k < 66) → t' k = t k) ∧ (∀ l, l < c → t' (26 + 5 * l) = t (e + 11 + 3 * l) ∧ t' (26 + 5 * l + 3) = t (e + 12 + 3 * l) ∧ t' (26 + 5 * l + 4) = t (e + 13 + 3 * l) ∧ t' (26 + 5 * l + 1) = t (26 + 5 * l + 1) ∧ t' (26 + 5 * l + 2) = t (26 + 5 * l + 2)) ∧ ∀ k, 26 + 5 * c ≤ k → t' k = t k) (f_X8_undo_124 (nI e) (tN M t)) := by
  unfold f_X8_undo_124
  rw [lett_d, litI]
  unfold l_X8_undo_126
  refine itr_rel (fun i z => ∃ t', z = (nI i, tN M t') ∧ (∀ k, ¬ (26 ≤ k ∧ k < 66) → t' k = t k) ∧ (∀ l, l < i → t' (26 + 5 * l) = t (e + 11 + 3 * l) ∧ t' (26 + 5 * l + 3) = t (e + 12 + 3 * l) ∧ t' (26 + 5 * l + 4) = t (e + 13 + 3 * l) ∧ t' (26 + 5 * l + 1) = t (26 + 5 * l + 1) ∧ t' (26 + 5 * l + 2) = t (26 + 5 * l + 2)) ∧ ∀ k, 26 + 5 * i ≤ k → t' k = t k) _ c ?_ FU 0 _ ⟨t, rfl, fun _ _ => rfl, fun l hl => absurd hl (Nat.not_lt_zero _), fun _ _ => rfl⟩ (Nat.zero_le _) (by rw [FU_d]; omega)
  rintro i z hi ⟨t', rfl, h1, h2, h3⟩
  have c' : t' (e + 4) = nI c := by rw [h1 _ (by omega)]; exact hc
  by_cases hlt : i < c
  · left
    refine ⟨hlt, (nI (i + 1), tN M (upd (upd (upd t' (26 + 5 * i) (t' (e + 11 + 3 * i))) (26 + 5 * i + 3) (t' (e + 12 + 3 * i))) (26 + 5 * i + 4) (t' (e + 13 + 3 * i)))), ⟨_, rfl, fun k hk => ?_, fun l hl => ?_, fun k hk => ?_⟩, fun k => ?_⟩
    · rw [up_n (by omega), up_n (by omega), up_n (by omega)]; exact h1 k hk
    · by_cases q : l = i
      · subst q
        rw [up_n (by omega), up_n (by omega), up_s, up_n (by omega), up_s, up_s, up_n (by omega), up_n (by omega), up_n (by omega), up_n (by omega), up_n (by omega), up_n (by omega), h1 _ (by omega), h1 _ (by omega), h1 _ (by omega), h3 _ (by omega), h3 _ (by omega)]
        exact ⟨rfl, rfl, rfl, rfl, rfl⟩
      · simp (disch := omega) only [up_n]
        exact h2 l (by omega)
    · rw [up_n (by omega), up_n (by omega), up_n (by omega)]; exact h3 k (by omega)
    · show f_X8_undo_126 (nI e) (nI i) (tN M t') _ = _
      unfold f_X8_undo_126
      simp (disch := omega) only [litI, pk_mul, nI_add, gi_n, clN, lett_d, tN, vu_vu, vu_s, c', leN]
      rw [if_neg (by omega), up_n (by omega), up_n (by omega), up_n (by omega)]
  · right
    have e8 : i = c := by omega
    subst e8
    refine ⟨some (1, tN M t'), ok_s ⟨_, rfl, h1, h2, h3⟩, fun k => ?_⟩
    show f_X8_undo_126 (nI e) (nI i) (tN M t') _ = _
    unfold f_X8_undo_126
    have hc2 : (tN M t').2.2 0 (e + 4) = nI i := by rw [tN_0]; exact c'
    simp (disch := omega) only [litI, nI_add, gi_n, clN, hc2, leN]
    rw [if_pos (by omega)]
theorem m_undo83 {M : Ms} {t : Nat → Int32} {e n c : Nat} (he : 82 ≤ e) (he2 : e + 35 ≤ 362) (hn : t (e + 3) = nI n) (h6 : n ≤ 6) (hc : t (e + 4) = nI c) (h8 : c ≤ 8) : ok (fun r => ∃ t', r = (1, tN M t') ∧ (∀ k, ¬ (8 ≤ k ∧ k < 66) → t' k = t k) ∧ (∀ p, p < n → t' (8 + 3 * p + 2) = t (e + 5 + p)) ∧ (∀ p j, p < 6 → j < 3 → (j ≠ 2 ∨ n ≤ p) → t' (8 + 3 * p + j) = t (8 + 3 * p + j)) ∧ (∀ l, l < c → t' (26 + 5 * l) = t (e + 11 + 3 * l) ∧ t' (26 + 5 * l + 3) = t (e + 12 + 3 * l) ∧ t' (26 + 5 * l + 4) = t (e + 13 + 3 * l) ∧ t' (26 + 5 * l + 1) = t (26 + 5 * l + 1) ∧ t' (26 + 5 * l + 2) = t (26 + 5 * l + 2)) ∧ ∀ k, 26 + 5 * c ≤ k → t' k = t k) (l_X8_undo_83 (nI e) (fun Mz => f_X8_undo_124 (nI e) Mz) FU (nI 0) (tN M t)) := by
  unfold l_X8_undo_83
  refine itr_rel (fun i z => ∃ t', z = (nI i, tN M t') ∧ (∀ k, ¬ (8 ≤ k ∧ k < 26) → t' k = t k) ∧ (∀ p, p < i → t' (8 + 3 * p + 2) = t (e + 5 + p)) ∧ (∀ p j, p < 6 → j < 3 → (j ≠ 2 ∨ i ≤ p) → t' (8 + 3 * p + j) = t (8 + 3 * p + j))) _ n ?_ FU 0 _ ⟨t, rfl, fun _ _ => rfl, fun l hl => absurd hl (Nat.not_lt_zero _), fun _ _ _ _ _ => rfl⟩ (Nat.zero_le _) (by rw [FU_d]; omega)
  rintro i z hi ⟨t', rfl, h1, h2, h3⟩
  have c' : t' (e + 3) = nI n := by rw [h1 _ (by omega)]; exact hn
  by_cases hlt : i < n
  · left
    refine ⟨hlt, (nI (i + 1), tN M (upd t' (8 + 3 * i + 2) (t' (e + 5 + i)))), ⟨_, rfl, fun k hk => ?_, fun p hp => ?_, fun p j hp hj hq => ?_⟩, fun k => ?_⟩
    · rw [up_n (by omega)]; exact h1 k hk
    · by_cases q : p = i
      · subst q; rw [up_s, h1 _ (by omega)]
      · rw [up_n (by omega)]; exact h2 p (by omega)
    · rw [up_n (by omega)]; exact h3 p j hp hj (by omega)
    · show f_X8_undo_83 (nI e) (nI i) (tN M t') _ _ = _
      unfold f_X8_undo_83
      simp (disch := omega) only [litI, pk_mul, nI_add, gi_n, clN, lett_d, tN, vu_vu, vu_s, c', leN]
      rw [if_neg (by omega)]
  · right
    have e8 : i = n := by omega
    subst e8
    refine ⟨f_X8_undo_124 (nI e) (tN M t'), ?_, fun k => ?_⟩
    · refine ok_mono (m_undo124 (c := c) he he2 (by rw [h1 _ (by omega)]; exact hc) h8) ?_
      rintro r ⟨t2, e2, g1, g2, g3⟩
      refine ⟨t2, e2, fun k hk => ?_, fun p hp => ?_, fun p j hp hj hq => ?_, fun l hl => ?_, fun k hk => ?_⟩
      · rw [g1 k (by omega), h1 k (by omega)]
      · rw [g1 _ (by omega), h2 p hp]
      · rw [g1 _ (by omega), h3 p j hp hj hq]
      · obtain ⟨y1, y2, y3, y4, y5⟩ := g2 l hl
        rw [y1, y2, y3, y4, y5, h1 _ (by omega), h1 _ (by omega), h1 _ (by omega), h1 _ (by omega), h1 _ (by omega)]
        exact ⟨rfl, rfl, rfl, rfl, rfl⟩
      · rw [g3 k hk, h1 k (by omega)]
    · show f_X8_undo_83 (nI e) (nI i) (tN M t') _ _ = _
      unfold f_X8_undo_83
      have hc2 : (tN M t').2.2 0 (e + 3) = nI i := by rw [tN_0]; exact c'
      simp (disch := omega) only [litI, nI_add, gi_n, clN, hc2, leN]
      rw [if_pos (by omega)]
theorem m_undo {b : Nat} {A : AT} {H : AP} {M : Ms} (rm : rM A (M.2.2 0)) (oa : okA b A) (rmp : rMPast H (M.2.2 0)) (op : okP b A H) (h0 : 0 < H.1) : ok (fun r => ∃ t', r = (1, tN M t') ∧ rM5 (backN A (H.2 (H.1 - 1))) t' ∧ rMPast (H.1 - 1, H.2) t') (f_X8_undo M) := by
  have h8 := op.1
  obtain ⟨o0, o1, o2, o3, o4, o5, o6⟩ := op.2 (H.1 - 1) (by omega)
  obtain ⟨x1, x2, x3⟩ := rmp.2 (H.1 - 1) (by omega)
  have a4 := oa.2.2.2.2.1
  have a5 := oa.2.2.2.2.2.1
  have a6 := oa.2.2.2.2.2.2.1
  have h7 := rmp.1
  unfold f_X8_undo
  have y0 := x1 0 (by omega)
  have y1 := x1 1 (by omega)
  have y2 := x1 2 (by omega)
  have y3 := x1 3 (by omega)
  have y4 := x1 4 (by omega)
  rw [Nat.add_zero] at y0
  generalize hE : H.2 (H.1 - 1) = E at *
  simp (disch := omega) only [litI, gi_n, clN, h7, eqN]
  rw [if_neg (by omega)]
  generalize he : 82 + 35 * (H.1 - 1) = e at *
  simp (disch := omega) only [lett_d, vu_vu, vu_s, up_s, up_n, subN, pk_mul, nI_add, he, gi_n, clN, y0, y1, y2]
  generalize ht1 : upd (upd (upd (upd (M.2.2 0) 7 (nI (H.1 - 1))) 0 (nI (E.1 0))) 6 (nI (E.1 1))) 2 (nI (E.1 2)) = t1
  have key : ∀ k, k ≠ 7 → k ≠ 0 → k ≠ 6 → k ≠ 2 → t1 k = M.2.2 0 k := by
    intro k k1 k2 k3 k4
    rw [← ht1, up_n k4, up_n k3, up_n k2, up_n k1]
  refine ok_mono (m_undo83 (M := M) (t := t1) (n := E.1 3) (c := E.1 4) (by omega) (by omega) ?_ (by omega) ?_ (by omega)) ?_
  · rw [key _ (by omega) (by omega) (by omega) (by omega)]; exact y3
  · rw [key _ (by omega) (by omega) (by omega) (by omega)]; exact y4
  · rintro r ⟨t2, e2, g1, g2, g3, g4, g5⟩
    refine ⟨t2, e2, ?_, ?_⟩
    · refine ⟨rm.1, fun k hk => ?_, fun j hj p (hp : p < A.1 4) => ?_, fun j hj l (hl : l < A.1 5) => ?_, fun j hj o (ho : o < A.1 6) => ?_⟩
      · have h6 := ixS_le hk
        rw [g1 _ (by omega), ← ht1]
        show _ = nI (if k = 0 then E.1 0 else if k = 3 then E.1 1 else if k = 2 then E.1 2 else A.1 k)
        have hk' : k = 0 ∨ k = 1 ∨ k = 2 ∨ k = 3 ∨ k = 4 ∨ k = 5 ∨ k = 6 := by omega
        rcases hk' with q | q | q | q | q | q | q
        · subst q; rw [if_pos rfl]; show upd _ 2 _ 0 = _; rw [up_n (by omega), up_n (by omega), up_s]
        · subst q; rw [if_neg (by omega), if_neg (by omega), if_neg (by omega)]; show upd _ 2 _ 1 = _; rw [up_n (by omega), up_n (by omega), up_n (by omega), up_n (by omega)]; exact rm.2.1 1 (by omega)
        · subst q; rw [if_neg (by omega), if_neg (by omega), if_pos rfl]; show upd _ 2 _ 2 = _; rw [up_s]
        · subst q; rw [if_neg (by omega), if_pos rfl]; show upd _ 2 _ 6 = _; rw [up_n (by omega), up_s]
        · subst q; rw [if_neg (by omega), if_neg (by omega), if_neg (by omega)]; show upd _ 2 _ 3 = _; rw [up_n (by omega), up_n (by omega), up_n (by omega), up_n (by omega)]; exact rm.2.1 4 (by omega)
        · subst q; rw [if_neg (by omega), if_neg (by omega), if_neg (by omega)]; show upd _ 2 _ 4 = _; rw [up_n (by omega), up_n (by omega), up_n (by omega), up_n (by omega)]; exact rm.2.1 5 (by omega)
        · subst q; rw [if_neg (by omega), if_neg (by omega), if_neg (by omega)]; show upd _ 2 _ 5 = _; rw [up_n (by omega), up_n (by omega), up_n (by omega), up_n (by omega)]; exact rm.2.1 6 (by omega)
      · have old := rm.2.2.1 j hj p hp
        have hj' : j = 0 ∨ j = 1 ∨ j = 2 := by omega
        rcases hj' with q | q | q
        · subst q; rw [g3 p 0 (by omega) (by omega) (by omega), key _ (by omega) (by omega) (by omega) (by omega)]; exact old
        · subst q; rw [g3 p 1 (by omega) (by omega) (by omega), key _ (by omega) (by omega) (by omega) (by omega)]; exact old
        · subst q
          show _ = nI (if p < E.1 3 then E.2 0 p else A.2 2 p)
          by_cases q : p < E.1 3
          · rw [if_pos q, g2 p q, key _ (by omega) (by omega) (by omega) (by omega)]; exact x2 p q
          · rw [if_neg q, g3 p 2 (by omega) (by omega) (by omega), key _ (by omega) (by omega) (by omega) (by omega)]; exact old
      · have old := rm.2.2.2.1 j hj l hl
        by_cases q : l < E.1 4
        · obtain ⟨z1, z2, z3, z4, z5⟩ := g4 l q
          obtain ⟨w1, w2, w3⟩ := x3 l q
          have hj' : j = 0 ∨ j = 1 ∨ j = 2 ∨ j = 3 ∨ j = 4 := by omega
          rcases hj' with e | e | e | e | e
          · subst e
            show _ = nI (if l < E.1 4 then E.2 1 l else A.2 3 l)
            rw [if_pos q, Nat.add_zero, z1, key _ (by omega) (by omega) (by omega) (by omega)]; exact w1
          · subst e; rw [z4, key _ (by omega) (by omega) (by omega) (by omega)]; exact old
          · subst e; rw [z5, key _ (by omega) (by omega) (by omega) (by omega)]; exact old
          · subst e
            show _ = nI (if l < E.1 4 then E.2 2 l else A.2 6 l)
            rw [if_pos q, z2, key _ (by omega) (by omega) (by omega) (by omega)]; exact w2
          · subst e
            show _ = nI (if l < E.1 4 then E.2 3 l else A.2 7 l)
            rw [if_pos q, z3, key _ (by omega) (by omega) (by omega) (by omega)]; exact w3
        · rw [g5 _ (by omega), key _ (by omega) (by omega) (by omega) (by omega), old]
          have hj' : j = 0 ∨ j = 1 ∨ j = 2 ∨ j = 3 ∨ j = 4 := by omega
          rcases hj' with e | e | e | e | e
          · subst e
            show _ = nI (if l < E.1 4 then E.2 1 l else A.2 3 l)
            rw [if_neg q]
          · subst e; rfl
          · subst e; rfl
          · subst e
            show _ = nI (if l < E.1 4 then E.2 2 l else A.2 6 l)
            rw [if_neg q]
          · subst e
            show _ = nI (if l < E.1 4 then E.2 3 l else A.2 7 l)
            rw [if_neg q]
      · have old := rm.2.2.2.2.1 j hj o ho
        rw [g1 _ (by omega), key _ (by omega) (by omega) (by omega) (by omega), old]
        have hj' : j = 0 ∨ j = 1 := by omega
        rcases hj' with e | e
        · subst e; rfl
        · subst e; rfl
    · have kk : ∀ k, 82 ≤ k → t2 k = M.2.2 0 k := fun k hk => by rw [g1 k (by omega), key k (by omega) (by omega) (by omega) (by omega)]
      refine ⟨?_, fun i (hi : i < H.1 - 1) => ?_⟩
      · rw [g1 7 (by omega), ← ht1, up_n (by omega), up_n (by omega), up_n (by omega), up_s]
      · obtain ⟨v1, v2, v3⟩ := rmp.2 i (by omega)
        refine ⟨fun k hk => ?_, fun p hp => ?_, fun l hl => ?_⟩
        · rw [kk _ (by omega)]; exact v1 k hk
        · rw [kk _ (by omega)]; exact v2 p hp
        · rw [kk _ (by omega), kk _ (by omega), kk _ (by omega)]; exact v3 l hl
section
variable {b : Nat} {B : Nat → Int32} {N : Tw} {P : Ps} {I1 : Int32} {T1 : Tw} {P1 : Ps} {I2 : Int32} {T2 : Tw} {P2 : Ps} {X : Tx} {K : Ch} {M : Ms}
theorem q_undo (h : SR b B N P I1 T1 P1 I2 T2 P2 X K M) : ∃ r B' N' P' M', f_X7_undo B N P = some (r, B', N', P') ∧ f_X8_undo M = some (r, M') ∧ SR (b + 96) B' N' P' I1 T1 P1 I2 T2 P2 X K M' := by
  obtain ⟨A, H, rt, rm, oa, rp, rmp, op⟩ := h.2.1
  have h8 := op.1
  have hc : ((0 : Int32) < P.1) = (0 < H.1) := by rw [rp.1]; exact ltN (a := 0) (by omega) (by omega)
  by_cases h0 : 0 < H.1
  · obtain ⟨r7, e7, c1, c2⟩ := s_goBack rt oa rp op h0
    obtain ⟨r8, e8, t', rfl, d1, d2⟩ := m_undo rm oa rmp op h0
    have hE := op.2 (H.1 - 1) (by omega)
    unfold f_X7_undo
    rw [if_pos (hc.mpr h0), e7, e8]
    simp only [bn_s]
    refine ⟨_, _, _, _, _, rfl, rfl, SR_now h (by omega) ⟨fixR (backN A (H.2 (H.1 - 1))) t', (H.1 - 1, H.2), rT_fix c2, rM_fix d1, okA_mono (okA_fix (okA_back oa hE)) (by omega), c1, d2, ?_⟩⟩
    have op' : okP b A (H.1 - 1, H.2) := ⟨by show H.1 - 1 ≤ 8; omega, fun e (he : e < H.1 - 1) => op.2 e (by omega)⟩
    exact okP_mono op' (by omega) (Nat.le_refl _) (Nat.le_refl _) (fun l _ => by rw [fixR_j (by omega)]; rfl)
  · have e0 : H.1 = 0 := by omega
    have c7 : (M.2.2 0) 7 = 0 := by rw [rmp.1, e0]; rfl
    unfold f_X7_undo f_X8_undo
    rw [if_neg (fun q => h0 (hc.mp q)), show (7 : Int32) = nI 7 from rfl, gi_n (by omega) (by omega), clN (by omega), if_pos c7]
    simp only [no7, no8, bn_s]
    exact ⟨_, _, _, _, _, rfl, rfl, SR_no h⟩
end
