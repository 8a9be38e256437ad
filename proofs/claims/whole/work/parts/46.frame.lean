/-! PURE: what a call leaves as it was. -/
theorem vu_s {α : Type} {f : Nat → α} {k : Nat} {x : α} : va_up f k x k = x := if_pos rfl
theorem vu_n {α : Type} {f : Nat → α} {k j : Nat} {x : α} (h : j ≠ k) : va_up f k x j = f j := if_neg h
theorem up_s {f : Nat → Int32} {k : Nat} {x : Int32} : upd f k x k = x := if_pos rfl
theorem up_n {f : Nat → Int32} {k j : Nat} {x : Int32} (h : j ≠ k) : upd f k x j = f j := if_neg h
theorem okP_mono {b b' : Nat} {A A' : AT} {H : AP} (h : okP b A H) (hb : b ≤ b') (h4 : A.1 4 ≤ A'.1 4) (h5 : A.1 5 ≤ A'.1 5) (he : ∀ l, l < A.1 5 → A'.2 5 l = A.2 5 l) : okP b' A' H := by
  refine ⟨h.1, fun e hlt => ?_⟩
  obtain ⟨a0, a1, a2, a3, a4, a5, a6⟩ := h.2 e hlt
  refine ⟨a0, Nat.le_trans a1 hb, Nat.le_trans a2 hb, Nat.le_trans a3 h4, Nat.le_trans a4 h5, a5, fun l hl => ?_⟩
  rw [he l (by omega)]
  exact a6 l hl
theorem SRt_mono {b b' : Nat} {T : Tw} {P : Ps} {t : Nat → Int32} (h : SRt b T P t) (hb : b ≤ b') : SRt b' T P t := by
  obtain ⟨A, H, a, c, d, e, f, g⟩ := h
  exact ⟨A, H, a, c, okA_mono d hb, e, f, okP_mono g hb (Nat.le_refl _) (Nat.le_refl _) (fun _ _ => rfl)⟩
theorem SRi_mono {b b' : Nat} {I : Int32} {T : Tw} {P : Ps} {k : Int32} {t : Nat → Int32} (h : SRi b I T P k t) (hb : b ≤ b') : SRi b' I T P k t := by
  rcases h with h | ⟨h1, h2, h3⟩
  · exact Or.inl h
  · exact Or.inr ⟨h1, h2, SRt_mono h3 hb⟩
section
variable {b b' : Nat} {B : Nat → Int32} {N : Tw} {P : Ps} {I1 : Int32} {T1 : Tw} {P1 : Ps} {I2 : Int32} {T2 : Tw} {P2 : Ps} {X : Tx} {K : Ch} {M : Ms}
theorem SR_mono (h : SR b B N P I1 T1 P1 I2 T2 P2 X K M) (hb : b ≤ b') : SR b' B N P I1 T1 P1 I2 T2 P2 X K M := by
  obtain ⟨h1, h2, h3, h4, h5, h6⟩ := h
  exact ⟨h1, SRt_mono h2 hb, SRi_mono h3 hb, SRi_mono h4 hb, h5, h6⟩
/-- the model's rows that SR doesn't speak of may change -/
theorem SR_frame (h : SR b B N P I1 T1 P1 I2 T2 P2 X K M) {M' : Ms} (e1 : M'.1 0 = M.1 0) (e2 : M'.2.1 = M.2.1) (e3 : ∀ r, r = 0 ∨ r = 3 ∨ r = 4 ∨ r = 5 ∨ r = 6 → M'.2.2 r = M.2.2 r) : SR b B N P I1 T1 P1 I2 T2 P2 X K M' := by
  have a0 := e3 0 (by omega)
  have a3 := e3 3 (by omega)
  have a4 := e3 4 (by omega)
  have a5 := e3 5 (by omega)
  have a6 := e3 6 (by omega)
  unfold SR
  rw [a0, a3, a4, a5, a6, e1, e2]
  exact h
/-- the town that is now, and its past, on both sides -/
theorem SR_now (h : SR b B N P I1 T1 P1 I2 T2 P2 X K M) (hb : b ≤ b') {N' : Tw} {P' : Ps} {t : Nat → Int32} (hn : SRt b' N' P' t) : SR b' B N' P' I1 T1 P1 I2 T2 P2 X K (M.1, M.2.1, va_up M.2.2 0 t) := by
  obtain ⟨h1, h2, h3, h4, h5, h6⟩ := SR_mono h hb
  unfold SR
  simp only [vu_s, vu_n (f := M.2.2) (x := t) (show (3 : Nat) ≠ 0 by omega), vu_n (f := M.2.2) (x := t) (show (4 : Nat) ≠ 0 by omega), vu_n (f := M.2.2) (x := t) (show (5 : Nat) ≠ 0 by omega), vu_n (f := M.2.2) (x := t) (show (6 : Nat) ≠ 0 by omega)]
  exact ⟨h1, hn, h3, h4, h5, h6⟩
/-- a refusal, counted -/
def refM (M : Ms) (i : Nat) : Ms := (M.1, M.2.1, va_up M.2.2 5 (upd (M.2.2 5) i (M.2.2 5 i + 1)))
theorem SR_ref (h : SR b B N P I1 T1 P1 I2 T2 P2 X K M) (i : Nat) (hi : i < 3) : SR b (upd B i (B i + 1)) N P I1 T1 P1 I2 T2 P2 X K (refM M i) := by
  obtain ⟨h1, h2, h3, h4, h5, h6⟩ := h
  unfold SR refM
  simp only [vu_s, vu_n (f := M.2.2) (x := upd (M.2.2 5) i (M.2.2 5 i + 1)) (show (0 : Nat) ≠ 5 by omega), vu_n (f := M.2.2) (x := upd (M.2.2 5) i (M.2.2 5 i + 1)) (show (3 : Nat) ≠ 5 by omega), vu_n (f := M.2.2) (x := upd (M.2.2 5) i (M.2.2 5 i + 1)) (show (4 : Nat) ≠ 5 by omega), vu_n (f := M.2.2) (x := upd (M.2.2 5) i (M.2.2 5 i + 1)) (show (6 : Nat) ≠ 5 by omega)]
  refine ⟨fun j hj => ?_, h2, h3, h4, h5, h6⟩
  unfold upd
  by_cases e : j = i
  · rw [if_pos e, if_pos e, h1 i hi]
  · rw [if_neg e, if_neg e, h1 j hj]
end
theorem bad7 (B : Nat → Int32) : f_X7_bad B = some (-2, upd B 0 (B 0 + 1)) := rfl
theorem no7 (B : Nat → Int32) : f_X7_no B = some (-3, upd B 1 (B 1 + 1)) := rfl
theorem full7 (B : Nat → Int32) : f_X7_full B = some (-4, upd B 2 (B 2 + 1)) := rfl
theorem bad8 (M : Ms) : f_X8_bad M = some (-2, refM M 0) := by
  unfold f_X8_bad; simp (disch := omega) only [litI, gi_n, clN, lett_d]; rfl
theorem badAs8 (x : Int32) (M : Ms) : f_X8_badAs x M = some (x, refM M 0) := by
  unfold f_X8_badAs; simp (disch := omega) only [litI, gi_n, clN, lett_d]; rfl
theorem no8 (M : Ms) : f_X8_no M = some (-3, refM M 1) := by
  unfold f_X8_no; simp (disch := omega) only [litI, gi_n, clN, lett_d]; rfl
theorem full8 (M : Ms) : f_X8_full M = some (-4, refM M 2) := by
  unfold f_X8_full; simp (disch := omega) only [litI, gi_n, clN, lett_d]; rfl
theorem rMPast_upd {H : AP} {t : Nat → Int32} (h : rMPast H t) {k : Nat} {x : Int32} (hk : k < 82) (h7 : k ≠ 7) : rMPast H (upd t k x) := by
  refine ⟨by rw [up_n (by omega)]; exact h.1, fun e he => ?_⟩
  obtain ⟨a, c, d⟩ := h.2 e he
  refine ⟨fun i hi => ?_, fun i hi => ?_, fun i hi => ?_⟩
  · rw [up_n (by omega)]; exact a i hi
  · rw [up_n (by omega)]; exact c i hi
  · rw [up_n (by omega), up_n (by omega), up_n (by omega)]; exact d i hi
