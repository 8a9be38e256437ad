/-! PURE: joined. -/
section
variable {b : Nat} {B : Nat → Int32} {N : Tw} {P : Ps} {I1 : Int32} {T1 : Tw} {P1 : Ps} {I2 : Int32} {T2 : Tw} {P2 : Ps} {X : Tx} {K : Ch} {M : Ms}
theorem s_alike {A : AT} {T : Tw} {b l m : Nat} (rt : rT A T) (oa : okA b A) (hl : l < A.1 5) (hm : m < A.1 5) : f_X5_alike (nI l) (nI m) T = some (if A.2 4 l = A.2 4 m ∧ A.2 5 l = A.2 5 m then 1 else 0) := by
  have a5 := oa.2.2.2.2.2.1
  obtain ⟨l1, l2, l3, l4, l5, _⟩ := oa.2.2.2.2.2.2.2.2.1 l hl
  obtain ⟨m1, m2, m3, m4, m5, _⟩ := oa.2.2.2.2.2.2.2.2.1 m hm
  have c4 := rt.2.2.1 4 (by omega) (by omega) l hl
  have c5 := rt.2.2.1 5 (by omega) (by omega) l hl
  have d4 := rt.2.2.1 4 (by omega) (by omega) m hm
  have d5 := rt.2.2.1 5 (by omega) (by omega) m hm
  unfold f_X5_alike
  simp (disch := omega) only [gi_n, clN, c4, c5, d4, d5, eqN]
  by_cases q : A.2 4 l = A.2 4 m
  · rw [if_pos q]
    by_cases r : A.2 5 l = A.2 5 m
    · rw [if_pos r, if_pos ⟨q, r⟩]
    · rw [if_neg r, if_neg (fun h => r h.2)]
  · rw [if_neg q, if_neg (fun h => q h.1)]
theorem s_canJoin {A : AT} {T : Tw} {b l m : Nat} (rt : rT A T) (oa : okA b A) (hl : l < A.1 5) (hm : m < A.1 5) : f_X5_canBeJoined (nI l) (nI m) T = some (if A.2 6 l = 2 ∧ A.2 6 m = 2 ∧ A.2 4 l = A.2 4 m ∧ A.2 5 l = A.2 5 m then 1 else 0) := by
  have a5 := oa.2.2.2.2.2.1
  obtain ⟨l1, l2, l3, l4, l5, l6, _⟩ := oa.2.2.2.2.2.2.2.2.1 l hl
  obtain ⟨m1, m2, m3, m4, m5, m6, _⟩ := oa.2.2.2.2.2.2.2.2.1 m hm
  have c6 := rt.2.2.1 6 (by omega) (by omega) l hl
  have d6 := rt.2.2.1 6 (by omega) (by omega) m hm
  unfold f_X5_canBeJoined
  rw [s_alike rt oa hl hm, show (2 : Int32) = nI 2 from rfl]
  simp (disch := omega) only [gi_n, clN, c6, d6, eqN, bn_s]
  by_cases q : A.2 6 l = 2
  · rw [if_pos q]
    by_cases r : A.2 6 m = 2
    · rw [if_pos r]
      by_cases s : A.2 4 l = A.2 4 m ∧ A.2 5 l = A.2 5 m
      · rw [if_pos s, if_neg i10, if_pos ⟨q, r, s⟩]
      · rw [if_neg s, if_pos rfl, if_neg (fun h => s h.2.2)]
    · rw [if_neg r, if_neg (fun h => r h.2.1)]
  · rw [if_neg q, if_neg (fun h => q h.1)]
def joinN (A : AT) (l m : Nat) : AT := setA (setA (setA A 7 l (min (A.2 5 l) (A.2 7 l + A.2 7 m))) 6 l (if min (A.2 5 l) (A.2 7 l + A.2 7 m) = A.2 5 l then 3 else 2)) 6 m 4
theorem s_putTogether {A : AT} {T : Tw} {b l m : Nat} (rt : rT A T) (oa : okA b A) (hl : l < A.1 5) (hm : m < A.1 5) : ok (fun T' => rT (joinN A l m) T') (f_X5_putTogether (nI l) (nI m) T) := by
  have a5 := oa.2.2.2.2.2.1
  obtain ⟨l1, l2, l3, l4, l5, l6, l7, l8⟩ := oa.2.2.2.2.2.2.2.2.1 l hl
  obtain ⟨m1, m2, m3, m4, m5, m6, m7, m8⟩ := oa.2.2.2.2.2.2.2.2.1 m hm
  have c5 := rt.2.2.1 5 (by omega) (by omega) l hl
  have c7 := rt.2.2.1 7 (by omega) (by omega) l hl
  have d7 := rt.2.2.1 7 (by omega) (by omega) m hm
  unfold f_X5_putTogether
  simp (disch := omega) only [gi_n, clN, c5, c7, d7, nI_add, ltN]
  rw [min_if]
  refine ok_lett (fun T1 h1 => ?_)
  have r1 : rT (setA A 7 l (min (A.2 5 l) (A.2 7 l + A.2 7 m))) T1 := by rw [h1]; exact rT_setA rt
  have e7 : T1.2 7 l = nI (min (A.2 5 l) (A.2 7 l + A.2 7 m)) := by
    have := r1.2.2.1 7 (by omega) (by omega) l hl
    rw [setA_same] at this
    exact this
  have e5 : T1.2 5 l = nI (A.2 5 l) := by
    have := r1.2.2.1 5 (by omega) (by omega) l hl
    rw [setA_j (by omega)] at this
    exact this
  have fin : ∀ s : Nat, ok (fun T' => rT (setA (setA (setA A 7 l (min (A.2 5 l) (A.2 7 l + A.2 7 m))) 6 l s) 6 m 4) T') (f_X5_putTogether_53 (nI m) (nI l) (nI s) T1) := by
    intro s
    unfold f_X5_putTogether_53
    simp (disch := omega) only [gi_n, clN]
    refine ok_lett (fun T2 h2 => ?_)
    have r2 : rT (setA (setA A 7 l (min (A.2 5 l) (A.2 7 l + A.2 7 m))) 6 l s) T2 := by rw [h2]; exact rT_setA r1
    refine ok_lett (fun T3 h3 => ok_s ?_)
    rw [h3]; exact rT_setA r2
  simp (disch := omega) only [e7, e5, eqN]
  unfold joinN
  by_cases q : min (A.2 5 l) (A.2 7 l + A.2 7 m) = A.2 5 l
  · rw [if_pos q, if_pos q]; exact fin 3
  · rw [if_neg q, if_neg q]; exact fin 2
theorem m_join {A : AT} {t : Nat → Int32} {b l m : Nat} (rm : rM A t) (oa : okA b A) (hl : l < A.1 5) (hm : m < A.1 5) (hlm : l ≠ m) : ∃ t', (∀ s : Nat, s = (if min (A.2 5 l) (A.2 7 l + A.2 7 m) = A.2 5 l then 3 else 2) → f_X8_join_183 (nI (26 + 5 * l)) (nI (26 + 5 * m)) (nI (26 + 5 * l + 3)) (nI s) (tN M (upd t (26 + 5 * l + 4) (nI (min (A.2 5 l) (A.2 7 l + A.2 7 m))))) = some (nI s, tN M t')) ∧ rM (joinN A l m) t' := by
  have a5 := oa.2.2.2.2.2.1
  have r1 : rM (setA A 7 l (min (A.2 5 l) (A.2 7 l + A.2 7 m))) (upd t (26 + 5 * l + 4) (nI (min (A.2 5 l) (A.2 7 l + A.2 7 m)))) := rM_setL (j := 4) rm (by omega) (by omega)
  generalize hs : (if min (A.2 5 l) (A.2 7 l + A.2 7 m) = A.2 5 l then 3 else 2) = s0
  have r2 := rM_setL (j := 3) (l := l) (x := s0) r1 (by omega) (by omega)
  have r3 := rM_setL (j := 3) (l := m) (x := 4) r2 (by omega) (by omega)
  refine ⟨_, fun s e => ?_, by unfold joinN; rw [hs]; exact r3⟩
  subst e
  unfold f_X8_join_183
  simp (disch := omega) only [litI, nI_add, gi_n, clN, lett_d, tN, vu_vu, vu_s, up_n, up_s]
theorem q_join (h : SR b B N P I1 T1 P1 I2 T2 P2 X K M) (x y : Int32) : ∃ r B' N' P' M', f_X7_join x y B N P = some (r, B', N', P') ∧ f_X8_join x y M = some (r, M') ∧ SR (b + 96) B' N' P' I1 T1 P1 I2 T2 P2 X K M' := by
  obtain ⟨A, H, rt, rm, oa, rp, rmp, op⟩ := h.2.1
  unfold f_X7_join f_X8_join f_X7_join_27 f_X8_join_21 f_X8_join_106
  rcases loan_cases rt rm oa x with ⟨l, hl, e, e8, e7⟩ | ⟨e8, e7⟩
  · rw [e7, e8]
    rcases loan_cases rt rm oa y with ⟨m, hm, f, f8, f7⟩ | ⟨f8, f7⟩
    · rw [f7, f8]
      subst e f
      simp only [bn_s, if_neg i10]
      have a5 := oa.2.2.2.2.2.1
      by_cases q : l = m
      · subst q
        rw [if_pos rfl, if_pos rfl]
        simp only [bad7, bad8, bn_s]
        exact ⟨_, _, _, _, _, rfl, rfl, SR_bad h⟩
      · have qn : ¬ nI l = nI m := by rw [eqN (by omega) (by omega)]; exact q
        rw [if_neg qn, if_neg qn, s_canJoin rt oa hl hm]
        obtain ⟨l1, l2, l3, l4, l5, l6, l7, l8⟩ := oa.2.2.2.2.2.2.2.2.1 l hl
        obtain ⟨m1, m2, m3, m4, m5, m6, m7, m8⟩ := oa.2.2.2.2.2.2.2.2.1 m hm
        have c4 : (M.2.2 0) (26 + 5 * l + 1) = nI (A.2 4 l) := rm.2.2.2.1 1 (by omega) l hl
        have c5 : (M.2.2 0) (26 + 5 * l + 2) = nI (A.2 5 l) := rm.2.2.2.1 2 (by omega) l hl
        have c6 : (M.2.2 0) (26 + 5 * l + 3) = nI (A.2 6 l) := rm.2.2.2.1 3 (by omega) l hl
        have d4 : (M.2.2 0) (26 + 5 * m + 1) = nI (A.2 4 m) := rm.2.2.2.1 1 (by omega) m hm
        have d5 : (M.2.2 0) (26 + 5 * m + 2) = nI (A.2 5 m) := rm.2.2.2.1 2 (by omega) m hm
        have d6 : (M.2.2 0) (26 + 5 * m + 3) = nI (A.2 6 m) := rm.2.2.2.1 3 (by omega) m hm
        simp only [bn_s, lett_d]
        by_cases c : A.2 6 l = 2 ∧ A.2 6 m = 2 ∧ A.2 4 l = A.2 4 m ∧ A.2 5 l = A.2 5 m
        · rw [if_pos c, if_neg i10]
          simp (disch := omega) only [litI, pk_mul, nI_add, gi_n, clN, c4, c5, c6, d4, d5, d6, eqN]
          rw [if_pos c.1, if_pos c.2.1, if_pos c.2.2.1, if_pos c.2.2.2]
          obtain ⟨P', t', A', H', e1, e2, ⟨ea, er⟩, rt', rm', oa', rp', rmp', op'⟩ := keep_both (M := M) rt rm oa rp rmp op
          have hl' : l < A'.1 5 := by rw [ea]; exact hl
          have hm' : m < A'.1 5 := by rw [ea]; exact hm
          obtain ⟨T', e3, rT'⟩ := s_putTogether rt' oa' hl' hm'
          obtain ⟨t2, ej, rj⟩ := m_join (M := M) rm' oa' hl' hm' q
          have x5 : t' (26 + 5 * l + 2) = nI (A'.2 5 l) := rm'.2.2.2.1 2 (by omega) l hl'
          have x7 : t' (26 + 5 * l + 4) = nI (A'.2 7 l) := rm'.2.2.2.1 4 (by omega) l hl'
          have z7 : t' (26 + 5 * m + 4) = nI (A'.2 7 m) := rm'.2.2.2.1 4 (by omega) m hm'
          obtain ⟨l1', l2', l3', l4', l5', l6', l7', l8'⟩ := oa'.2.2.2.2.2.2.2.2.1 l hl'
          obtain ⟨m1', m2', m3', m4', m5', m6', m7', m8'⟩ := oa'.2.2.2.2.2.2.2.2.1 m hm'
          rw [e1, e2, e3]
          simp (disch := omega) only [bn_s, tN_0, x5, x7, z7, nI_add, m_least, clN]
          generalize hv : min (A'.2 5 l) (A'.2 7 l + A'.2 7 m) = v at *
          have s6 : T'.2 6 l = nI (if v = A'.2 5 l then 3 else 2) := by
            have := rT'.2.2.1 6 (by omega) (by omega) l hl'
            unfold joinN at this
            rw [setA_k q, setA_same, hv] at this
            exact this
          have x5' : upd t' (26 + 5 * l + 4) (nI v) (26 + 5 * l + 2) = nI (A'.2 5 l) := by rw [up_n (by omega)]; exact x5
          have fold : (((tN M t').1, (tN M t').2.1, va_up (tN M t').2.2 0 (upd t' (26 + 5 * l + 4) (nI v))) : Ms) = tN M (upd t' (26 + 5 * l + 4) (nI v)) := tN_t
          rw [fold]
          simp (disch := omega) only [lett_d, tN_0, vu_s, up_s, x5', eqN, s6, gi_n]
          have fin : ∃ M', f_X8_join_183 (nI (26 + 5 * l)) (nI (26 + 5 * m)) (nI (26 + 5 * l + 3)) (nI (if v = A'.2 5 l then 3 else 2)) (tN M (upd t' (26 + 5 * l + 4) (nI v))) = some (nI (if v = A'.2 5 l then 3 else 2), M') ∧ SR (b + 96) B T' P' I1 T1 P1 I2 T2 P2 X K M' := by
            refine ⟨_, ej _ rfl, SR_kept h rp' op' rm' rmp' rT' rj (okA_mono (b := b) ?_ (by omega)) (Nat.le_refl _) (Nat.le_refl _) (fun k _ => ?_) ?_⟩
            · unfold joinN
              refine okA_state (okA_owed oa' (fun _ => by omega) ?_ ?_) (by omega) (by omega)
              · split <;> omega
              · split <;> omega
            · unfold joinN; rw [setA_j (by omega), setA_j (by omega), setA_j (by omega)]
            · unfold joinN; rw [setA_j (by omega), setA_j (by omega), setA_j (by omega)]
          obtain ⟨M', f1, f2⟩ := fin
          by_cases cv : v = A'.2 5 l
          · rw [if_pos cv] at f1
            rw [if_pos cv, if_pos cv, f1]
            exact ⟨_, _, _, _, _, rfl, rfl, f2⟩
          · rw [if_neg cv] at f1
            rw [if_neg cv, if_neg cv, f1]
            exact ⟨_, _, _, _, _, rfl, rfl, f2⟩
        · rw [if_neg c, if_pos rfl]
          simp (disch := omega) only [litI, pk_mul, nI_add, gi_n, clN, c4, c5, c6, d4, d5, d6, eqN, no7, no8, bn_s]
          refine ⟨_, _, _, _, _, rfl, ?_, SR_no h⟩
          by_cases c1 : A.2 6 l = 2
          · rw [if_pos c1]
            by_cases c2 : A.2 6 m = 2
            · rw [if_pos c2]
              by_cases c3 : A.2 4 l = A.2 4 m
              · rw [if_pos c3]
                by_cases c4 : A.2 5 l = A.2 5 m
                · exact absurd ⟨c1, c2, c3, c4⟩ c
                · rw [if_neg c4]
              · rw [if_neg c3]
            · rw [if_neg c2]
          · rw [if_neg c1]
    · rw [f7, f8]
      simp only [bn_s, if_true, if_neg i10, bad7, bad8]
      exact ⟨_, _, _, _, _, rfl, rfl, SR_bad h⟩
  · rw [e7, e8]
    simp only [bn_s, if_true, bad7, bad8]
    exact ⟨_, _, _, _, _, rfl, rfl, SR_bad h⟩
end
