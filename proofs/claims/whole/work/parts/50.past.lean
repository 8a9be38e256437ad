/-! PURE: what may be undone: kept on both sides. -/
theorem cpy_out {f g : Nat → Int32} {sp dp n k : Nat} (h : k < dp ∨ dp + n ≤ k) : va_cpy f g sp dp n k = g k := by
  unfold va_cpy
  rw [if_neg (by omega)]
theorem cpy_in {f g : Nat → Int32} {sp dp n k : Nat} (h1 : dp ≤ k) (h2 : k < dp + n) : va_cpy f g sp dp n k = f (sp + (k - dp)) := by
  unfold va_cpy
  rw [if_pos ⟨h1, h2⟩]
def momN (A : AT) : AE := (fun k => if k = 0 then A.1 0 else if k = 1 then A.1 3 else if k = 2 then A.1 2 else if k = 3 then A.1 4 else A.1 5, fun j => if j = 0 then A.2 2 else if j = 1 then A.2 3 else if j = 2 then A.2 6 else A.2 7)
def shiftN (H : AP) : AP := if H.1 < 8 then H else (7, fun e => H.2 (e + 1))
def appN (H : AP) (E : AE) : AP := (H.1 + 1, fun e => if e = H.1 then E else H.2 e)
theorem okE_mom {b : Nat} {A : AT} (h : okA b A) : okE b A (momN A) := by
  obtain ⟨a0, a1, a2, a3, a4, a5, a6, a7, a8, a9⟩ := h
  refine ⟨a0, a3, a2, Nat.le_refl _, Nat.le_refl _, fun p hp => (a7 p hp).2.2, fun l hl => ?_⟩
  obtain ⟨l1, l2, l3, l4, l5, l6, l7, l8⟩ := a8 l hl
  exact ⟨l1, l6, l7, l8⟩
theorem okP_shift {b : Nat} {A : AT} {H : AP} (h : okP b A H) : okP b A (shiftN H) ∧ (shiftN H).1 < 8 := by
  unfold shiftN
  by_cases e : H.1 < 8
  · rw [if_pos e]; exact ⟨h, e⟩
  · rw [if_neg e]
    have := h.1
    exact ⟨⟨by show (7 : Nat) ≤ 8; omega, fun i (hi : i < 7) => h.2 (i + 1) (by omega)⟩, by show (7 : Nat) < 8; omega⟩
theorem okP_app {b : Nat} {A : AT} {H : AP} {E : AE} (h : okP b A H) (h8 : H.1 < 8) (hE : okE b A E) : okP b A (appN H E) := by
  refine ⟨h8, fun e (he : e < H.1 + 1) => ?_⟩
  show okE b A (if e = H.1 then E else H.2 e)
  by_cases q : e = H.1
  · rw [if_pos q]; exact hE
  · rw [if_neg q]; exact h.2 e (by omega)
theorem s_keep32 {b : Nat} {A : AT} {T : Tw} {H : AP} {P : Ps} (rt : rT A T) (oa : okA b A) (rp : rPast H P) (op : okP b A H) (h8 : H.1 < 8) : ok (fun P' => rPast (appN H (momN A)) P') (f_X3_keep_32 P T) := by
  obtain ⟨p1, p2⟩ := rp
  obtain ⟨a0, a1, a2, a3, a4, a5, a6, a7, a8, a9⟩ := oa
  unfold f_X3_keep_32
  have c0 := rt.1 0 (by omega)
  have c2 := rt.1 2 (by omega)
  have c3 := rt.1 3 (by omega)
  have c4 := rt.1 4 (by omega)
  have c5 := rt.1 5 (by omega)
  generalize hn : H.1 = n at *
  simp (disch := omega) only [litI, p1, pk_mul, lett_d, nI_add, gi_n, gcN, clN, c0, c2, c3, c4, c5]
  refine ok_s ⟨by show nI (n + 1) = nI (H.1 + 1); rw [hn], fun e (he : e < H.1 + 1) => ?_⟩
  rw [hn] at he
  by_cases q : e = n
  · have eE : (appN H (momN A)).2 e = momN A := by show (if e = H.1 then momN A else H.2 e) = _; rw [if_pos (by omega)]
    rw [eE]
    subst q
    refine ⟨fun k hk => ?_, fun p (hp : p < A.1 4) => ?_, fun l (hl : l < A.1 5) => ⟨?_, ?_, ?_⟩⟩
    · simp (disch := omega) only [cpy_out]
      have hk' : k = 0 ∨ k = 1 ∨ k = 2 ∨ k = 3 ∨ k = 4 := by omega
      rcases hk' with q | q | q | q | q
      · subst q
        simp (disch := omega) only [Nat.add_zero, Nat.mul_comm, up_n, up_s]; rfl
      · subst q
        simp (disch := omega) only [Nat.mul_comm, up_n, up_s]; rfl
      · subst q
        simp (disch := omega) only [Nat.mul_comm, up_n, up_s]; rfl
      · subst q
        simp (disch := omega) only [Nat.mul_comm, up_n, up_s]; rfl
      · subst q
        simp (disch := omega) only [Nat.mul_comm, up_s]; rfl
    · dsimp only
      rw [cpy_out (by omega), cpy_out (by omega), cpy_out (by omega), cpy_in (by omega) (by omega)]
      rw [show 0 + (35 * e + 5 + p - (e * 35 + 5)) = p by omega]
      exact rt.2.1 2 (by omega) p hp
    · dsimp only
      rw [cpy_out (by omega), cpy_out (by omega), cpy_in (by omega) (by omega)]
      rw [show 0 + (35 * e + 11 + l - (e * 35 + 11)) = l by omega]
      exact rt.2.2.1 3 (by omega) (by omega) l hl
    · dsimp only
      rw [cpy_out (by omega), cpy_in (by omega) (by omega)]
      rw [show 0 + (35 * e + 19 + l - (e * 35 + 19)) = l by omega]
      exact rt.2.2.1 6 (by omega) (by omega) l hl
    · dsimp only
      rw [cpy_in (by omega) (by omega)]
      rw [show 0 + (35 * e + 27 + l - (e * 35 + 27)) = l by omega]
      exact rt.2.2.1 7 (by omega) (by omega) l hl
  · have eE : (appN H (momN A)).2 e = H.2 e := by show (if e = H.1 then momN A else H.2 e) = _; rw [if_neg (by omega)]
    rw [eE]
    obtain ⟨o0, o1, o2, o3, o4, o5⟩ := op.2 e (by omega)
    obtain ⟨x1, x2, x3⟩ := p2 e (by omega)
    refine ⟨fun k hk => ?_, fun p hp => ?_, fun l hl => ?_⟩
    · simp (disch := omega) only [cpy_out, up_n]; exact x1 k hk
    · simp (disch := omega) only [cpy_out, up_n]; exact x2 p hp
    · simp (disch := omega) only [cpy_out, up_n]; exact x3 l hl
theorem s_keep {b : Nat} {A : AT} {T : Tw} {H : AP} {P : Ps} (rt : rT A T) (oa : okA b A) (rp : rPast H P) (op : okP b A H) : ok (fun P' => rPast (appN (shiftN H) (momN A)) P') (f_X3_keep P T) := by
  have h8 := op.1
  obtain ⟨os, hs⟩ := okP_shift op
  unfold f_X3_keep
  have hc : (P.1 < (8 : Int32)) = (H.1 < 8) := by rw [rp.1]; exact ltN (b := 8) (by omega) (by omega)
  by_cases e : H.1 < 8
  · rw [if_pos (hc.mpr e)]
    have es : shiftN H = H := if_pos e
    rw [es]
    exact s_keep32 rt oa rp op e
  · rw [if_neg (fun q => e (hc.mp q))]
    have es : shiftN H = (7, fun e => H.2 (e + 1)) := if_neg e
    simp (disch := omega) only [litI, gcN, clN, lett_d]
    refine s_keep32 rt oa (P := (nI 7, va_cpy P.2 P.2 35 0 245)) ?_ os hs
    rw [es]
    refine ⟨rfl, fun i (hi : i < 7) => ?_⟩
    obtain ⟨o0, o1, o2, o3, o4, o5⟩ := op.2 (i + 1) (by omega)
    obtain ⟨x1, x2, x3⟩ := rp.2 (i + 1) (by omega)
    obtain ⟨_, _, _, _, a4, a5, _⟩ := oa
    refine ⟨fun k hk => ?_, fun p hp => ?_, fun l hl => ?_⟩
    · show va_cpy P.2 P.2 35 0 245 (35 * i + k) = _
      rw [cpy_in (by omega) (by omega), ← x1 k hk]
      exact congrArg _ (by omega)
    · have hp' : p < (H.2 (i + 1)).1 3 := hp
      show va_cpy P.2 P.2 35 0 245 (35 * i + 5 + p) = _
      rw [cpy_in (by omega) (by omega), ← x2 p hp]
      exact congrArg _ (by omega)
    · have hl' : l < (H.2 (i + 1)).1 4 := hl
      obtain ⟨y1, y2, y3⟩ := x3 l hl
      refine ⟨?_, ?_, ?_⟩
      · show va_cpy P.2 P.2 35 0 245 (35 * i + 11 + l) = _
        rw [cpy_in (by omega) (by omega), ← y1]
        exact congrArg _ (by omega)
      · show va_cpy P.2 P.2 35 0 245 (35 * i + 19 + l) = _
        rw [cpy_in (by omega) (by omega), ← y2]
        exact congrArg _ (by omega)
      · show va_cpy P.2 P.2 35 0 245 (35 * i + 27 + l) = _
        rw [cpy_in (by omega) (by omega), ← y3]
        exact congrArg _ (by omega)
/-- the model with another row 0 -/
def tN (M : Ms) (t : Nat → Int32) : Ms := (M.1, M.2.1, va_up M.2.2 0 t)
theorem vu_vu {α : Type} {f : Nat → α} {k : Nat} {x y : α} : va_up (va_up f k x) k y = va_up f k y := by
  funext j
  unfold va_up
  by_cases e : j = k
  · rw [if_pos e, if_pos e]
  · rw [if_neg e, if_neg e, if_neg e]
theorem vu_self {α : Type} {f : Nat → α} {k : Nat} : va_up f k (f k) = f := by
  funext j
  unfold va_up
  by_cases e : j = k
  · rw [if_pos e, e]
  · rw [if_neg e]
theorem tN_0 {M : Ms} {t : Nat → Int32} : (tN M t).2.2 0 = t := (vu_s : va_up M.2.2 0 t 0 = t)
theorem tN_t {M : Ms} {t t' : Nat → Int32} : ((tN M t).1, (tN M t).2.1, va_up (tN M t).2.2 0 t') = tN M t' := by
  show (M.1, M.2.1, va_up (va_up M.2.2 0 t) 0 t') = _
  rw [vu_vu]; rfl
theorem tN_self {M : Ms} : tN M (M.2.2 0) = M := by
  show (M.1, M.2.1, va_up M.2.2 0 (M.2.2 0)) = M
  rw [vu_self]
theorem m_knows264 {M : Ms} {t : Nat → Int32} {n : Nat} (h7 : t 7 = nI n) : f_X8_knows_264 (tN M t) = some (tN M (upd t 7 (nI (n + 1)))) := by
  unfold f_X8_knows_264
  simp (disch := omega) only [litI, gi_n, clN, lett_d, tN, vu_vu, vu_s, h7, nI_add]
theorem m_knows174 {M : Ms} {t : Nat → Int32} {e n : Nat} (h7 : t 7 = nI n) (he : 82 ≤ e) (he2 : e + 35 ≤ 362) : ok (fun M' => ∃ t', M' = tN M t' ∧ t' 7 = nI (n + 1) ∧ (∀ k, ¬ (e + 11 ≤ k ∧ k < e + 35) → k ≠ 7 → t' k = t k) ∧ ∀ l, l < 8 → t' (e + 11 + 3 * l) = t (26 + 5 * l) ∧ t' (e + 12 + 3 * l) = t (26 + 5 * l + 3) ∧ t' (e + 13 + 3 * l) = t (26 + 5 * l + 4)) (f_X8_knows_174 (nI e) (tN M t)) := by
  unfold f_X8_knows_174
  rw [lett_d, litI]
  unfold l_X8_knows_176
  refine itr_rel (fun i z => ∃ t', z = (nI i, tN M t') ∧ (∀ k, ¬ (e + 11 ≤ k ∧ k < e + 35) → t' k = t k) ∧ ∀ l, l < i → t' (e + 11 + 3 * l) = t (26 + 5 * l) ∧ t' (e + 12 + 3 * l) = t (26 + 5 * l + 3) ∧ t' (e + 13 + 3 * l) = t (26 + 5 * l + 4)) _ 8 ?_ FU 0 _ ⟨t, rfl, fun _ _ => rfl, fun l hl => absurd hl (Nat.not_lt_zero _)⟩ (Nat.zero_le _) (by rw [FU_d]; omega)
  rintro i z hi ⟨t', rfl, h1, h2⟩
  by_cases hlt : i < 8
  · left
    refine ⟨hlt, (nI (i + 1), tN M (upd (upd (upd t' (e + 11 + 3 * i) (t' (26 + 5 * i))) (e + 12 + 3 * i) (t' (26 + 5 * i + 3))) (e + 13 + 3 * i) (t' (26 + 5 * i + 4)))), ⟨_, rfl, fun k hk => ?_, fun l hl => ?_⟩, fun k => ?_⟩
    · rw [up_n (by omega), up_n (by omega), up_n (by omega)]; exact h1 k hk
    · by_cases q : l = i
      · subst q
        rw [up_n (by omega), up_n (by omega), up_s, up_n (by omega), up_s, up_s, h1 _ (by omega), h1 _ (by omega), h1 _ (by omega)]
        exact ⟨rfl, rfl, rfl⟩
      · simp (disch := omega) only [up_n]
        exact h2 l (by omega)
    · show f_X8_knows_176 (nI e) (nI i) (tN M t') _ _ = _
      unfold f_X8_knows_176
      simp (disch := omega) only [litI, leN, pk_mul, nI_add, gi_n, clN, lett_d, tN, vu_vu, vu_s]
      rw [if_neg (by omega), up_n (by omega), up_n (by omega), up_n (by omega)]
  · right
    have e8 : i = 8 := by omega
    subst e8
    refine ⟨some (tN M (upd t' 7 (nI (n + 1)))), ok_s ⟨_, rfl, up_s, fun k hk h7 => by rw [up_n h7]; exact h1 k hk, fun l hl => ?_⟩, fun k => ?_⟩
    · rw [up_n (by omega), up_n (by omega), up_n (by omega)]; exact h2 l hl
    · show f_X8_knows_176 (nI e) (nI 8) (tN M t') _ _ = _
      unfold f_X8_knows_176
      simp (disch := omega) only [litI, leN]
      rw [if_pos (by omega)]
      exact m_knows264 (by rw [h1 7 (by omega)]; exact h7)
theorem m_knows54 {M : Ms} {t : Nat → Int32} {n : Nat} (h7 : t 7 = nI n) (hn : n < 8) : ok (fun M' => ∃ t', M' = tN M t' ∧ t' 7 = nI (n + 1) ∧ (∀ k, ¬ (82 + 35 * n ≤ k ∧ k < 82 + 35 * n + 35) → k ≠ 7 → t' k = t k) ∧ (t' (82 + 35 * n) = t 0 ∧ t' (82 + 35 * n + 1) = t 6 ∧ t' (82 + 35 * n + 2) = t 2 ∧ t' (82 + 35 * n + 3) = t 3 ∧ t' (82 + 35 * n + 4) = t 4) ∧ (∀ p, p < 6 → t' (82 + 35 * n + 5 + p) = t (8 + 3 * p + 2)) ∧ ∀ l, l < 8 → t' (82 + 35 * n + 11 + 3 * l) = t (26 + 5 * l) ∧ t' (82 + 35 * n + 12 + 3 * l) = t (26 + 5 * l + 3) ∧ t' (82 + 35 * n + 13 + 3 * l) = t (26 + 5 * l + 4)) (f_X8_knows_54 (tN M t)) := by
  unfold f_X8_knows_54
  simp (disch := omega) only [litI, gi_n, clN, tN, vu_vu, vu_s, h7, pk_mul, nI_add, lett_d]
  generalize he : 82 + 35 * n = e
  simp (disch := omega) only [up_n]
  unfold l_X8_knows_139
  refine itr_rel (fun i z => ∃ t', z = (nI i, tN M t') ∧ (∀ k, ¬ (e + 0 ≤ k ∧ k < e + 11) → t' k = t k) ∧ (t' e = t 0 ∧ t' (e + 1) = t 6 ∧ t' (e + 2) = t 2 ∧ t' (e + 3) = t 3 ∧ t' (e + 4) = t 4) ∧ ∀ p, p < i → t' (e + 5 + p) = t (8 + 3 * p + 2)) _ 6 ?_ FU 0 _ ⟨_, rfl, fun k hk => ?_, ⟨?_, ?_, ?_, ?_, ?_⟩, fun l hl => absurd hl (Nat.not_lt_zero _)⟩ (Nat.zero_le _) (by rw [FU_d]; omega)
  · rintro i z hi ⟨t', rfl, h1, h2, h3⟩
    by_cases hlt : i < 6
    · left
      refine ⟨hlt, (nI (i + 1), tN M (upd t' (e + 5 + i) (t' (8 + 3 * i + 2)))), ⟨_, rfl, fun k hk => ?_, ?_, fun p hp => ?_⟩, fun k => ?_⟩
      · rw [up_n (by omega)]; exact h1 k hk
      · rw [up_n (by omega), up_n (by omega), up_n (by omega), up_n (by omega), up_n (by omega)]; exact h2
      · by_cases q : p = i
        · subst q; rw [up_s, h1 _ (by omega)]
        · rw [up_n (by omega)]; exact h3 p (by omega)
      · show f_X8_knows_139 (nI e) (nI i) (tN M t') _ _ = _
        unfold f_X8_knows_139
        simp (disch := omega) only [litI, leN, pk_mul, nI_add, gi_n, clN, lett_d, tN, vu_vu, vu_s]
        rw [if_neg (by omega)]
    · right
      have e6 : i = 6 := by omega
      subst e6
      refine ⟨f_X8_knows_174 (nI e) (tN M t'), ?_, fun k => ?_⟩
      · refine ok_mono (m_knows174 (t := t') (n := n) (by rw [h1 7 (by omega)]; exact h7) (by omega) (by omega)) ?_
        rintro M' ⟨t2, e2, g1, g2, g3⟩
        refine ⟨t2, e2, g1, fun k hk h7 => ?_, ⟨?_, ?_, ?_, ?_, ?_⟩, fun p hp => ?_, fun l hl => ?_⟩
        · rw [g2 k (by omega) h7]; exact h1 k (by omega)
        · rw [g2 _ (by omega) (by omega)]; exact h2.1
        · rw [g2 _ (by omega) (by omega)]; exact h2.2.1
        · rw [g2 _ (by omega) (by omega)]; exact h2.2.2.1
        · rw [g2 _ (by omega) (by omega)]; exact h2.2.2.2.1
        · rw [g2 _ (by omega) (by omega)]; exact h2.2.2.2.2
        · rw [g2 _ (by omega) (by omega)]; exact h3 p hp
        · obtain ⟨y1, y2, y3⟩ := g3 l hl
          rw [y1, y2, y3, h1 _ (by omega), h1 _ (by omega), h1 _ (by omega)]
          exact ⟨rfl, rfl, rfl⟩
      · show f_X8_knows_139 (nI e) (nI 6) (tN M t') _ _ = _
        unfold f_X8_knows_139
        simp (disch := omega) only [litI, leN]
        rw [if_pos (by omega)]
  · simp (disch := omega) only [up_n]
  · simp (disch := omega) only [up_n, up_s]
  · simp (disch := omega) only [up_n, up_s]
  · simp (disch := omega) only [up_n, up_s]
  · simp (disch := omega) only [up_n, up_s]
  · simp (disch := omega) only [up_s]
