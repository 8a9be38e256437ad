/-! PURE: sold, joined. -/
theorem okA_owner {b l x : Nat} {A : AT} (hA : okA b A) (hx : x < A.1 4) : okA b (setA A 3 l x) := by
  obtain ⟨a0, a1, a2, a3, a4, a5, a6, a7, a8, a9⟩ := hA
  refine ⟨a0, a1, a2, a3, a4, a5, a6, fun p hp => ?_, fun q hq => ?_, fun o ho => ?_⟩
  · rw [setA_j (by omega), setA_j (by omega), setA_j (by omega)]; exact a7 p hp
  · rw [setA_j (j' := 4) (by omega), setA_j (j' := 5) (by omega), setA_j (j' := 6) (by omega), setA_j (j' := 7) (by omega)]
    obtain ⟨l1, l2⟩ := a8 q hq
    refine ⟨?_, l2⟩
    by_cases e : q = l
    · subst e; rw [setA_same]; exact hx
    · rw [setA_k e]; exact l1
  · rw [setA_j (by omega), setA_j (by omega)]; exact a9 o ho
/-- the town now, after what is now was kept, is another one -/
theorem SR_kept {b : Nat} {B : Nat → Int32} {N : Tw} {P : Ps} {I1 : Int32} {T1 : Tw} {P1 : Ps} {I2 : Int32} {T2 : Tw} {P2 : Ps} {X : Tx} {K : Ch} {M : Ms} (h : SR b B N P I1 T1 P1 I2 T2 P2 X K M) {A A' : AT} {N' : Tw} {P' : Ps} {t t' : Nat → Int32} {H : AP} (hP : rPast H P') (hO : okP b A H) (rm0 : rM A t) (hM : rMPast H t) (rt : rT A' N') (rm : rM A' t') (oa : okA (b + 96) A') (h4 : A.1 4 ≤ A'.1 4) (h5 : A.1 5 ≤ A'.1 5) (he : ∀ l, l < A.1 5 → A'.2 5 l = A.2 5 l) (h10 : A'.2 10 = A.2 10) : SR (b + 96) B N' P' I1 T1 P1 I2 T2 P2 X K (tN M t') :=
  SR_now h (by omega) ⟨A', H, rt, rm, oa, hP, rMPast_eq hM (rest_eq rm0 rm h10), okP_mono hO (by omega) h4 h5 he⟩
section
variable {b : Nat} {B : Nat → Int32} {N : Tw} {P : Ps} {I1 : Int32} {T1 : Tw} {P1 : Ps} {I2 : Int32} {T2 : Tw} {P2 : Ps} {X : Tx} {K : Ch} {M : Ms}
theorem sell_do (h : SR b B N P I1 T1 P1 I2 T2 P2 X K M) {A : AT} {H : AP} (rt : rT A N) (rm : rM A (M.2.2 0)) (oa : okA b A) (rp : rPast H P) (rmp : rMPast H (M.2.2 0)) (op : okP b A H) {l j k : Nat} (hl : l < A.1 5) (hj : j < A.1 4) (hk : k ≤ 9999) : ∃ r B' N' P' M', f_X7_sell_81 (nI l) (nI j) (nI k) 1 B N P = some (r, B', N', P') ∧ f_X8_sell_80 (nI j) (nI k) (nI (26 + 5 * l)) M = some (r, M') ∧ SR (b + 96) B' N' P' I1 T1 P1 I2 T2 P2 X K M' := by
  unfold f_X7_sell_81 f_X8_sell_80 f_X7_sell_101 f_X8_sell_97
  rw [if_neg i10]
  have a4 := oa.2.2.2.2.1
  have a5 := oa.2.2.2.2.2.1
  have d2 := rm.2.2.1 2 (by omega) j hj
  have c2 := rt.2.1 2 (by omega) j hj
  have k2 := (oa.2.2.2.2.2.2.2.1 j hj).2.2
  simp (disch := omega) only [litI, pk_mul, nI_add, gi_n, clN, d2, c2, leN]
  by_cases hp : k ≤ A.2 2 j
  · rw [if_pos hp, if_pos hp]
    obtain ⟨P', t', A', H', e1, e2, ⟨ea, er⟩, rt', rm', oa', rp', rmp', op'⟩ := keep_both (M := M) rt rm oa rp rmp op
    rw [e1, e2, ← er 2 (by omega)]
    have hl' : l < A'.1 5 := by rw [ea]; exact hl
    have hj' : j < A'.1 4 := by rw [ea]; exact hj
    obtain ⟨l1, l2, l3, l4, l5, l6, l7, l8⟩ := oa'.2.2.2.2.2.2.2.2.1 l hl'
    have c3 := rt'.2.2.1 3 (by omega) (by omega) l hl'
    have d3 : t' (26 + 5 * l) = nI (A'.2 3 l) := rm'.2.2.2.1 0 (by omega) l hl'
    have d2' : t' (8 + 3 * j + 2) = nI (A'.2 2 j) := rm'.2.2.1 2 (by omega) j hj'
    have hp' : k ≤ A'.2 2 j := by rw [er 2 (by omega)]; exact hp
    rw [← er 2 (by omega)] at c2 k2
    have a4' : A'.1 4 ≤ 6 := by rw [ea]; exact a4
    simp (disch := omega) only [bn_s, tN_0, gi_n, clN, c3, d3, d2', c2, subN]
    generalize hw : A'.2 3 l = w at *
    refine ⟨nI w, B, ?_⟩
    have kw := (oa'.2.2.2.2.2.2.2.1 w l1).2.2
    -- the class
    have r1 : rT (setA A' 2 j (A'.2 2 j - k)) (N.1, va_up N.2 2 (upd (N.2 2) j (nI (A'.2 2 j - k)))) := rT_setA rt'
    have r1w : va_up N.2 2 (upd (N.2 2) j (nI (A'.2 2 j - k))) 2 w = nI ((setA A' 2 j (A'.2 2 j - k)).2 2 w) := r1.2.1 2 (by omega) w l1
    have s1 : rM (setA A' 2 j (A'.2 2 j - k)) (upd t' (8 + 3 * j + 2) (nI (A'.2 2 j - k))) := rM_setP rm' (by omega) (by omega)
    have s1w : upd t' (8 + 3 * j + 2) (nI (A'.2 2 j - k)) (8 + 3 * w + 2) = nI ((setA A' 2 j (A'.2 2 j - k)).2 2 w) := s1.2.2.1 2 (by omega) w l1
    have o1 : okA b (setA A' 2 j (A'.2 2 j - k)) := okA_purse oa' (by omega)
    have kw1 := (o1.2.2.2.2.2.2.2.1 w l1).2.2
    generalize (setA A' 2 j (A'.2 2 j - k)).2 2 w = v at r1w s1w kw1
    simp (disch := omega) only [lett_d, vu_s, gi_n, clN, pk_mul, nI_add, tN, vu_vu, s1w, m_least, bn_s]
    rw [vu_s] at r1w
    simp (disch := omega) only [r1w, nI_add, ltN]
    rw [min_if]
    have r2 := rT_setA r1 (j := 2) (k := w) (x := min 9999 (v + k))
    simp only [vu_s, vu_vu] at r2
    have r3 := rT_setA r2 (j := 3) (k := l) (x := j)
    have s2 : rM _ _ := rM_setP s1 (j := 2) (p := w) (x := min 9999 (v + k)) (by omega) (by omega)
    have s3 : rM _ _ := rM_setL s2 (j := 0) (l := l) (x := j) (by omega) (by omega)
    refine ⟨_, _, _, rfl, rfl, SR_kept h rp' op' rm' rmp' r3 s3 (okA_mono (okA_owner (okA_purse o1 (by omega)) hj') (by omega)) (Nat.le_refl _) (Nat.le_refl _) (fun q _ => ?_) ?_⟩
    · rw [setA_j (by omega), setA_j (by omega), setA_j (by omega)]
    · rw [setA_j (by omega), setA_j (by omega), setA_j (by omega)]
  · rw [if_neg hp, if_neg hp]
    simp only [no7, no8, bn_s]
    exact ⟨_, _, _, _, _, rfl, rfl, SR_no h⟩
theorem q_sell (h : SR b B N P I1 T1 P1 I2 T2 P2 X K M) (x y z : Int32) : ∃ r B' N' P' M', f_X7_sell x y z B N P = some (r, B', N', P') ∧ f_X8_sell x y z M = some (r, M') ∧ SR (b + 96) B' N' P' I1 T1 P1 I2 T2 P2 X K M' := by
  obtain ⟨A, H, rt, rm, oa, rp, rmp, op⟩ := h.2.1
  unfold f_X7_sell f_X8_sell f_X7_sell_46 f_X8_sell_42 f_X7_sell_76
  rcases loan_cases rt rm oa x with ⟨l, hl, e, e8, e7⟩ | ⟨e8, e7⟩
  · rw [e7, e8]
    rcases person_cases rt rm oa y with ⟨j, hj, f, f8, f7⟩ | ⟨f8, f7⟩
    · rw [f7, f8]
      rcases in_cases z 0 9999 (by omega) (by omega) with ⟨k, _, hk, g, g8, g7⟩ | ⟨g8, g7⟩
      · rw [show f_X7_within z 0 9999 = some 1 from g7, show f_X8_in z 0 9999 = some 1 from g8]
        subst e f g
        simp only [bn_s, if_neg i10]
        have a4 := oa.2.2.2.2.1
        have a5 := oa.2.2.2.2.2.1
        obtain ⟨l1, l2, l3, l4, l5, l6, l7, l8⟩ := oa.2.2.2.2.2.2.2.2.1 l hl
        have c3 := rt.2.2.1 3 (by omega) (by omega) l hl
        have c6 := rt.2.2.1 6 (by omega) (by omega) l hl
        have d3 : (M.2.2 0) (26 + 5 * l) = nI (A.2 3 l) := rm.2.2.2.1 0 (by omega) l hl
        have d6 : (M.2.2 0) (26 + 5 * l + 3) = nI (A.2 6 l) := rm.2.2.2.1 3 (by omega) l hl
        obtain ⟨r, B', N', P', M', s1, s2, s3⟩ := sell_do h rt rm oa rp rmp op hl hj hk
        rw [show (1 : Int32) = nI 1 from rfl] at s1
        simp (disch := omega) only [litI, pk_mul, nI_add, gi_n, clN, c3, c6, d3, d6, eqN, lett_d, s1, s2]
        by_cases q : A.2 3 l = j
        · rw [if_pos q, if_pos q]
          simp only [bad7, bad8, bn_s]
          exact ⟨_, _, _, _, _, rfl, rfl, SR_bad h⟩
        · rw [if_neg q, if_neg q]
          by_cases q0 : A.2 6 l = 0
          · rw [if_pos q0, if_pos q0]
            exact ⟨_, _, _, _, _, rfl, rfl, s3⟩
          · rw [if_neg q0, if_neg q0]
            by_cases q2 : A.2 6 l = 2
            · rw [if_pos q2, if_pos q2]
              exact ⟨_, _, _, _, _, rfl, rfl, s3⟩
            · rw [if_neg q2, if_neg q2]
              unfold f_X7_sell_81 f_X8_sell_97 f_X7_sell_101
              rw [if_pos (show nI 0 = 0 from rfl)]
              simp only [no7, no8, bn_s]
              exact ⟨_, _, _, _, _, rfl, rfl, SR_no h⟩
      · rw [show f_X7_within z 0 9999 = some 0 from g7, show f_X8_in z 0 9999 = some 0 from g8]
        simp only [bn_s, if_true, if_neg i10, bad7, bad8]
        exact ⟨_, _, _, _, _, rfl, rfl, SR_bad h⟩
    · rw [f7, f8]
      simp only [bn_s, if_true, if_neg i10, bad7, bad8]
      exact ⟨_, _, _, _, _, rfl, rfl, SR_bad h⟩
  · rw [e7, e8]
    simp only [bn_s, if_true, bad7, bad8]
    exact ⟨_, _, _, _, _, rfl, rfl, SR_bad h⟩
end
