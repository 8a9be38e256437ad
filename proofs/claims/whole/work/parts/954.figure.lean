/-! PURE: numbers of the text. -/
theorem in_eq (x lo hi : Int32) : f_X7_within x lo hi = f_X8_in x lo hi := by
  unfold f_X7_within f_X8_in
  by_cases h1 : x < lo
  · rw [if_pos h1]
  · rw [if_neg h1]
theorem in_01 (x lo hi : Int32) : f_X8_in x lo hi = some 1 ∨ f_X8_in x lo hi = some 0 := by
  unfold f_X8_in
  by_cases h1 : x < lo
  · rw [if_pos h1]; exact Or.inr rfl
  · rw [if_neg h1]
    by_cases h2 : hi < x
    · rw [if_pos h2]; exact Or.inr rfl
    · rw [if_neg h2]; exact Or.inl rfl
/-- the places of both readers, and their texts -/
def RD (m : Nat) (ch : Nat → Nat) (a : Nat) (X : Tx) (M : Ms) : Prop := TX m ch X M ∧ X.1 3 = nI a ∧ M.1 1 = nI a ∧ a ≤ m
/-- what reading leaves alone: the text of the class; of the model all but the reader's own numbers and the draft -/
def kx (X X' : Tx) (M M' : Ms) : Prop := X'.2 = X.2 ∧ M'.2.1 = M.2.1 ∧ ∀ r, r ≠ 2 → M'.2.2 r = M.2.2 r
theorem kx_t {X X' X'' : Tx} {M M' M'' : Ms} (h : kx X X' M M') (h' : kx X' X'' M' M'') : kx X X'' M M'' := ⟨h'.1.trans h.1, h'.2.1.trans h.2.1, fun r hr => (h'.2.2 r hr).trans (h.2.2 r hr)⟩
theorem kx_m {X X' : Tx} {M M' : Ms} (h1 : X'.2 = X.2) (h2 : M'.2 = M.2) : kx X X' M M' := ⟨h1, by rw [h2], fun r _ => by rw [h2]⟩
theorem TX_t {m : Nat} {ch : Nat → Nat} {X X' : Tx} {M M' : Ms} (h : TX m ch X M) (hk : kx X X' M M') (x0 : X'.1 0 = nI m) (m0 : M'.1 0 = nI m) : TX m ch X' M' := by
  obtain ⟨h1, h2, h3, h4, h5, h6⟩ := h
  exact ⟨h1, x0, m0, h4, by rw [hk.1]; exact h5, by rw [hk.2.2 6 (by omega)]; exact h6⟩
theorem step_rd {m a : Nat} {ch : Nat → Nat} {X : Tx} {M : Ms} (h : RD m ch a X M) : ∃ X' M' s e k, f_X4_step X = some X' ∧ f_X8_token M = some M' ∧ kx X X' M M' ∧ M'.2 = M.2 ∧ RD m ch e X' M' ∧ a ≤ s ∧ TK m ch s e k X' M' := by
  obtain ⟨hT, x3, m1, ha⟩ := h
  obtain ⟨X', M', s, e, k, p1, p2, p3, p4, p5, p6, p7, p8⟩ := step_both hT x3 m1 ha
  have hk : kx X X' M M' := kx_m p3 p5
  exact ⟨X', M', s, e, k, p1, p2, hk, p5, ⟨TX_t hT hk p4 p6, p8.2.2.2.1, p8.2.2.2.2.1, p8.2.1⟩, p7, p8⟩
theorem fig_both {m a : Nat} {ch : Nat → Nat} {X : Tx} {M : Ms} (lo hi : Int32) (h : RD m ch a X M) : ∃ X' M' s e k r v, f_X4_numberWithin lo hi X = some (r, X') ∧ f_X8_figure lo hi M = some (v, M') ∧ kx X X' M M' ∧ M'.2 = M.2 ∧ RD m ch e X' M' ∧ TK m ch s e k X' M' ∧ a ≤ s ∧ ((r = 1 ∧ X'.1 4 = v ∧ f_X8_in v lo hi = some 1 ∧ ∃ d, d ≤ 99999 ∧ v = nI d) ∨ (r = 0 ∧ v = -1)) := by
  obtain ⟨X', M', s, e, k, p1, p2, hk, hM, hR, ha, hK⟩ := step_rd h
  obtain ⟨hT, x3, m1, he⟩ := id hR
  obtain ⟨k1, k2, k3, k4, k5, k6, k7, k8, kd⟩ := id hK
  have kk4 : k ≤ 4 := by rcases kd with a | a | a | a | a <;> omega
  have hm := hT.1
  unfold f_X4_numberWithin f_X8_figure
  rw [p1, p2, bn_s, bn_s, lett_d, lett_d]
  have e2 : (nI k = (2 : Int32)) = (k = 2) := eqN (b := 2) (by omega) (by omega)
  have e6 : ((6 : Int32) ≤ nI (e - s)) = (6 ≤ e - s) := leN (a := 6) (by omega) (by omega)
  by_cases c : k = 2 ∧ e - s ≤ 5
  · have c2 : s < e ∧ EndR m ch 2 s e ∧ X'.1 1 = nI 2 ∧ X'.1 4 = nI (digN ch s (e - s)) := by
      rcases kd with ⟨q, b, d⟩ | ⟨q, b, d, f⟩ | ⟨q, b, d, f, g⟩ | ⟨q, b, d⟩ | ⟨q, b, d⟩
      · omega
      · omega
      · exact ⟨b, d, (f c.2).1, (f c.2).2⟩
      · omega
      · omega
    obtain ⟨hse, hE, t1, t4⟩ := c2
    have dl := digN_le hE.2.2.1 (e - s) (by omega)
    have p5 : (10 : Nat) ^ (e - s) ≤ 10 ^ 5 := Nat.pow_le_pow_right (by omega) c.2
    have p5' : (10 : Nat) ^ 5 = 100000 := rfl
    have loop : l_X8_figure_9 lo hi M' (fun x3 => f_X8_figure_61 lo hi x3 M') FU 0 0 = f_X8_figure_61 lo hi (nI (digN ch s (e - s))) M' := by
      unfold l_X8_figure_9
      refine itr_st (fun i => (nI (digN ch s i), nI i)) _ (e - s) ?_ ?_ FU 0 (by omega) (by rw [FU_d]; omega)
      · intro i kk hi'
        have d := srt_2.mp (hE.2.2.1 (s + i) (by omega) (by omega))
        have di := digN_le hE.2.2.1 i (by omega)
        have pi : (10 : Nat) ^ i ≤ 10 ^ 5 := Nat.pow_le_pow_right (by omega) (by omega)
        show f_X8_figure_9 lo hi (nI (digN ch s i)) (nI i) M' (fun x3 x4 => kk (x3, x4)) _ = kk (nI (digN ch s i * 10 + (ch (s + i) - 48)), nI (i + 1))
        unfold f_X8_figure_9
        rw [k7, if_neg (by rw [leN (by omega) (by omega)]; omega), if_neg (fun x => absurd (e6.mp x) (by omega)), k8, if_pos (e2.mpr c.1), k6, nI_add, m_byte hT (by omega), if_pos (show s + i < m by omega), bn_s, lett_d, lett_d, show (10 : Int32) = nI 10 from rfl, pk_mul, nI_add, show nI (10 * digN ch s i + ch (s + i)) - 48 = nI (10 * digN ch s i + ch (s + i) - 48) from subN (b := 48) (by omega), show nI i + 1 = nI (i + 1) from nI_add i 1, show 10 * digN ch s i + ch (s + i) - 48 = digN ch s i * 10 + (ch (s + i) - 48) by omega]
      · intro kk
        show f_X8_figure_9 lo hi _ (nI (e - s)) M' (fun x3 x4 => kk (x3, x4)) _ = _
        unfold f_X8_figure_9
        rw [k7, if_pos (Int32.le_refl _)]
    rw [loop]
    unfold f_X8_figure_61
    rw [k8, if_pos (e2.mpr c.1), k7, if_neg (fun x => absurd (e6.mp x) (by omega)), t1, if_pos (show nI 2 = (2 : Int32) from rfl), t4, in_eq]
    rcases in_01 (nI (digN ch s (e - s))) lo hi with q | q
    · rw [q, bn_s, bn_s, if_neg i10, if_neg i10]
      exact ⟨X', M', s, e, k, 1, nI (digN ch s (e - s)), rfl, rfl, hk, hM, hR, hK, ha, Or.inl ⟨rfl, t4, q, _, by omega, rfl⟩⟩
    · rw [q, bn_s, bn_s, if_pos rfl, if_pos rfl]
      exact ⟨X', M', s, e, k, 0, -1, rfl, rfl, hk, hM, hR, hK, ha, Or.inr ⟨rfl, rfl⟩⟩
  · have t1 : ¬ X'.1 1 = (2 : Int32) := by
      rcases kd with ⟨q, b, d⟩ | ⟨q, b, d, f⟩ | ⟨q, b, d, f, g⟩ | ⟨q, b, d⟩ | ⟨q, b, d⟩
      · rw [d]; decide
      · rw [f]; decide
      · rw [g (by omega)]; decide
      · rw [d]; decide
      · rw [d]; decide
    have stop : ∀ x3 : Int32, f_X8_figure_61 lo hi x3 M' = some (-1, M') := by
      intro x3
      unfold f_X8_figure_61
      rw [k8, k7]
      by_cases q : k = 2
      · rw [if_pos (e2.mpr q), if_pos (e6.mpr (by omega))]
      · rw [if_neg (fun x => q (e2.mp x))]
    have loop : l_X8_figure_9 lo hi M' (fun x3 => f_X8_figure_61 lo hi x3 M') FU 0 0 = some (-1, M') := by
      unfold l_X8_figure_9
      refine itr_st (fun _ => ((0 : Int32), (0 : Int32))) _ 0 (fun i k h => absurd h (Nat.not_lt_zero _)) (fun kk => ?_) FU 0 (Nat.le_refl _) (by rw [FU_d]; omega)
      show f_X8_figure_9 lo hi 0 0 M' _ _ = _
      unfold f_X8_figure_9
      rw [k7, k8]
      by_cases z : nI (e - s) ≤ 0
      · rw [if_pos z]; exact stop 0
      · rw [if_neg z]
        by_cases q : 6 ≤ e - s
        · rw [if_pos (e6.mpr q)]; exact stop 0
        · rw [if_neg (fun x => q (e6.mp x)), if_neg (fun x => c ⟨e2.mp x, by omega⟩)]; exact stop 0
    rw [loop, if_neg t1]
    exact ⟨X', M', s, e, k, 0, -1, rfl, rfl, hk, hM, hR, hK, ha, Or.inr ⟨rfl, rfl⟩⟩
/-- the item's end, on both sides -/
theorem end_both {m a : Nat} {ch : Nat → Nat} {X : Tx} {M : Ms} (h : RD m ch a X M) : ∃ X' M' s e k r, f_X4_itemEnds X = some (r, X') ∧ f_X8_token M = some M' ∧ kx X X' M M' ∧ M'.2 = M.2 ∧ RD m ch e X' M' ∧ TK m ch s e k X' M' ∧ a ≤ s ∧ ((r = 1 ∧ M'.1 4 = 3) ∨ (r = 0 ∧ ¬ M'.1 4 = 3)) := by
  obtain ⟨X', M', s, e, k, p1, p2, hk, hM, hR, ha, hK⟩ := step_rd h
  obtain ⟨k1, k2, k3, k4, k5, k6, k7, k8, kd⟩ := id hK
  unfold f_X4_itemEnds
  rw [p1, bn_s]
  have dec : (X'.1 1 = (3 : Int32) ∧ M'.1 4 = 3) ∨ (¬ X'.1 1 = (3 : Int32) ∧ ¬ M'.1 4 = 3) := by
    rw [k8]
    rcases kd with ⟨q, b, d⟩ | ⟨q, b, d, f⟩ | ⟨q, b, d, f, g⟩ | ⟨q, b, d⟩ | ⟨q, b, d⟩
    · right; rw [d, q]; exact ⟨by decide, by decide⟩
    · right; rw [f, q]; exact ⟨by decide, by decide⟩
    · right
      rw [q]
      refine ⟨?_, by decide⟩
      by_cases z : e - s ≤ 5
      · rw [(f z).1]; decide
      · rw [g (by omega)]; decide
    · left; rw [d, q]; exact ⟨rfl, rfl⟩
    · right; rw [d, q]; exact ⟨by decide, by decide⟩
  rcases dec with ⟨d1, d2⟩ | ⟨d1, d2⟩
  · rw [if_pos d1]
    exact ⟨X', M', s, e, k, 1, rfl, p2, hk, hM, hR, hK, ha, Or.inl ⟨rfl, d2⟩⟩
  · rw [if_neg d1]
    exact ⟨X', M', s, e, k, 0, rfl, p2, hk, hM, hR, hK, ha, Or.inr ⟨rfl, d2⟩⟩
