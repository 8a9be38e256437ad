/-! PURE: tokens: the model's, and both together. -/
/-- what a token is, on both sides: from s to e, of sort k -/
def TK (m : Nat) (ch : Nat → Nat) (s e k : Nat) (X : Tx) (M : Ms) : Prop := s ≤ e ∧ e ≤ m ∧ X.1 2 = nI s ∧ X.1 3 = nI e ∧ M.1 1 = nI e ∧ M.1 2 = nI s ∧ M.1 3 = nI (e - s) ∧ M.1 4 = nI k ∧ ((k = 0 ∧ s = e ∧ X.1 1 = nI 0) ∨ (k = 1 ∧ s < e ∧ EndR m ch 1 s e ∧ X.1 1 = nI 1) ∨ (k = 2 ∧ s < e ∧ EndR m ch 2 s e ∧ (e - s ≤ 5 → X.1 1 = nI 2 ∧ X.1 4 = nI (digN ch s (e - s))) ∧ (5 < e - s → X.1 1 = nI 4)) ∨ (k = 3 ∧ s < e ∧ X.1 1 = nI 3) ∨ (k = 4 ∧ s < e ∧ X.1 1 = nI 4))
/-- the model's loop over one token -/
theorem m_tok54 {m s k : Nat} {ch : Nat → Nat} {X : Tx} {M : Ms} (hT : TX m ch X M) (hs : s < m) (hk : k = srt (ch s)) (m1 : M.1 1 = nI s) (m3 : M.1 3 = nI 0) (m4 : M.1 4 = nI k) : ok (fun M' => M'.2 = M.2 ∧ M'.1 0 = nI m ∧ M'.1 2 = M.1 2 ∧ M'.1 4 = nI k ∧ ∃ e, s < e ∧ e ≤ m ∧ M'.1 1 = nI e ∧ M'.1 3 = nI (e - s) ∧ ((k = 1 ∨ k = 2) → EndR m ch k s e) ∧ ((k = 3 ∨ k = 4) → e = s + 1)) (l_X8_token_54 FU M) := by
  obtain ⟨h1, h2, h3, h4, h5, h6⟩ := id hT
  have kp : 1 ≤ k ∧ k ≤ 4 := by rw [hk]; exact srt_pos
  unfold l_X8_token_54
  refine itr_rel (fun i z => z.2 = M.2 ∧ z.1 0 = nI m ∧ z.1 2 = M.1 2 ∧ z.1 4 = nI k ∧ z.1 1 = nI (s + i) ∧ z.1 3 = nI i ∧ (∀ j, s ≤ j → j < s + i → srt (ch j) = k ∨ s < j) ∧ ((k = 1 ∨ k = 2) → ∀ j, s ≤ j → j < s + i → srt (ch j) = k) ∧ ((k = 3 ∨ k = 4) → i ≤ 1)) _ (m - s) ?_ FU 0 _ ⟨rfl, h3, rfl, m4, m1, m3, fun j a b => by omega, fun _ j a b => by omega, fun _ => by omega⟩ (Nat.zero_le _) (by rw [FU_d]; omega)
  rintro i z hi ⟨z2, y0, y2, y4, y1, y3, _, hl, h1x⟩
  have zT : TX m ch X z := ⟨h1, h2, y0, h4, h5, by rw [z2]; exact h6⟩
  have k0 : ¬ nI k = (0 : Int32) := by
    show ¬ nI k = nI 0
    rw [eqN (by omega) (by omega)]; omega
  have i0 : (nI i = (0 : Int32)) = (i = 0) := eqN (b := 0) (by omega) (by omega)
  have k1 : (nI k = (1 : Int32)) = (k = 1) := eqN (b := 1) (by omega) (by omega)
  have k2 : (nI k = (2 : Int32)) = (k = 2) := eqN (b := 2) (by omega) (by omega)
  have go : ∀ kk : Ms → Option Ms, f_X8_token_102 z (fun M => kk M) = kk (upd (upd z.1 1 (nI (s + i + 1))) 3 (nI (i + 1)), z.2) := by
    intro kk
    unfold f_X8_token_102
    rw [lett_d, y1, lett_d, show nI (s + i) + 1 = nI (s + i + 1) from nI_add _ 1]
    have a3 : (upd z.1 1 (nI (s + i + 1)), z.2).1 3 = nI i := (show upd z.1 1 (nI (s + i + 1)) 3 = z.1 3 from up_n (by omega)).trans y3
    rw [a3, show nI i + 1 = nI (i + 1) from nI_add i 1]
  have nextI : ∀ (hlt : i < m - s) (hq : (k = 1 ∨ k = 2) → srt (ch (s + i)) = k) (h34 : (k = 3 ∨ k = 4) → i = 0), (upd (upd z.1 1 (nI (s + i + 1))) 3 (nI (i + 1)), z.2).2 = M.2 ∧ (upd (upd z.1 1 (nI (s + i + 1))) 3 (nI (i + 1)), z.2).1 0 = nI m ∧ (upd (upd z.1 1 (nI (s + i + 1))) 3 (nI (i + 1)), z.2).1 2 = M.1 2 ∧ (upd (upd z.1 1 (nI (s + i + 1))) 3 (nI (i + 1)), z.2).1 4 = nI k ∧ (upd (upd z.1 1 (nI (s + i + 1))) 3 (nI (i + 1)), z.2).1 1 = nI (s + (i + 1)) ∧ (upd (upd z.1 1 (nI (s + i + 1))) 3 (nI (i + 1)), z.2).1 3 = nI (i + 1) ∧ (∀ j, s ≤ j → j < s + (i + 1) → srt (ch j) = k ∨ s < j) ∧ ((k = 1 ∨ k = 2) → ∀ j, s ≤ j → j < s + (i + 1) → srt (ch j) = k) ∧ ((k = 3 ∨ k = 4) → i + 1 ≤ 1) := by
    intro hlt hq h34
    refine ⟨z2, ?_, ?_, ?_, ?_, ?_, fun j a c => ?_, fun h12 j a c => ?_, fun h => by have := h34 h; omega⟩
    · exact (show upd (upd z.1 1 (nI (s + i + 1))) 3 (nI (i + 1)) 0 = z.1 0 by rw [up_n (by omega), up_n (by omega)]).trans y0
    · exact (show upd (upd z.1 1 (nI (s + i + 1))) 3 (nI (i + 1)) 2 = z.1 2 by rw [up_n (by omega), up_n (by omega)]).trans y2
    · exact (show upd (upd z.1 1 (nI (s + i + 1))) 3 (nI (i + 1)) 4 = z.1 4 by rw [up_n (by omega), up_n (by omega)]).trans y4
    · exact (show upd (upd z.1 1 (nI (s + i + 1))) 3 (nI (i + 1)) 1 = nI (s + (i + 1)) by rw [up_n (by omega), up_s]; rfl)
    · exact (show upd (upd z.1 1 (nI (s + i + 1))) 3 (nI (i + 1)) 3 = nI (i + 1) from up_s)
    · by_cases e : j = s
      · left; rw [e, hk]
      · right; omega
    · by_cases e : j = s + i
      · rw [e]; exact hq h12
      · exact hl h12 j a (by omega)
  by_cases hi0 : i = 0
  · left
    have hlt : i < m - s := by omega
    refine ⟨hlt, _, nextI hlt (fun _ => by rw [hi0, Nat.add_zero]; exact hk.symm) (fun _ => hi0), fun kk => ?_⟩
    show f_X8_token_54 z _ = _
    unfold f_X8_token_54
    rw [y4, if_neg k0, y3, if_pos (i0.mpr hi0)]
    exact go kk
  · have stop : ok (fun M' : Ms => M'.2 = M.2 ∧ M'.1 0 = nI m ∧ M'.1 2 = M.1 2 ∧ M'.1 4 = nI k ∧ ∃ e, s < e ∧ e ≤ m ∧ M'.1 1 = nI e ∧ M'.1 3 = nI (e - s) ∧ ((k = 1 ∨ k = 2) → EndR m ch k s e) ∧ ((k = 3 ∨ k = 4) → e = s + 1)) (some z) ∨ (s + i < m ∧ srt (ch (s + i)) = k ∧ (k = 1 ∨ k = 2)) := by
      by_cases c : s + i < m ∧ srt (ch (s + i)) = k ∧ (k = 1 ∨ k = 2)
      · exact Or.inr c
      · left
        refine ok_s ⟨z2, y0, y2, y4, s + i, by omega, by omega, y1, by rw [show s + i - s = i by omega]; exact y3, fun h12 => ⟨by omega, by omega, hl h12, fun h q => c ⟨h, q, h12⟩⟩, fun h34 => by have := h1x h34; omega⟩
    have b84 : ∀ kk : Ms → Option Ms, (k = 1 ∨ k = 2) → f_X8_token_84 z (fun M => kk M) = if s + i < m ∧ srt (ch (s + i)) = k then kk (upd (upd z.1 1 (nI (s + i + 1))) 3 (nI (i + 1)), z.2) else some z := by
      intro kk h12
      unfold f_X8_token_84
      rw [y1, m_byte zT (by omega), bn_s, go, y4]
      by_cases c : s + i < m
      · have sp := srt_pos (c := ch (s + i))
        rw [if_pos c, m_sort (h4 _ c), bn_s]
        have e : (nI (srt (ch (s + i))) = nI k) = (srt (ch (s + i)) = k) := eqN (by omega) (by omega)
        by_cases q : srt (ch (s + i)) = k
        · rw [if_pos (e.mpr q), if_pos ⟨c, q⟩]
        · rw [if_neg (fun x => q (e.mp x)), if_neg (fun x => q x.2)]
      · rw [if_neg c, m_sort0, bn_s, if_neg (fun x => k0 x.symm), if_neg (fun x => c x.1)]
    have body : ∀ kk : Ms → Option Ms, f_X8_token_54 z (fun M => kk M) = if (k = 1 ∨ k = 2) then (if s + i < m ∧ srt (ch (s + i)) = k then kk (upd (upd z.1 1 (nI (s + i + 1))) 3 (nI (i + 1)), z.2) else some z) else some z := by
      intro kk
      unfold f_X8_token_54
      rw [y4, if_neg k0, y3, if_neg (fun x => hi0 (i0.mp x))]
      by_cases c1 : k = 1
      · rw [if_pos (k1.mpr c1), if_pos (Or.inl c1), b84 kk (Or.inl c1)]
      · rw [if_neg (fun x => c1 (k1.mp x))]
        by_cases c2 : k = 2
        · rw [if_pos (k2.mpr c2), if_pos (Or.inr c2), b84 kk (Or.inr c2)]
        · rw [if_neg (fun x => c2 (k2.mp x)), if_neg (fun x => x.elim c1 c2)]
    by_cases c : s + i < m ∧ srt (ch (s + i)) = k ∧ (k = 1 ∨ k = 2)
    · left
      have hlt : i < m - s := by omega
      refine ⟨hlt, _, nextI hlt (fun _ => c.2.1) (fun h => by omega), fun kk => (body kk).trans ?_⟩
      rw [if_pos c.2.2, if_pos ⟨c.1, c.2.1⟩]
    · right
      rcases stop with st | st
      · refine ⟨some z, st, fun kk => (body kk).trans ?_⟩
        by_cases h12 : k = 1 ∨ k = 2
        · rw [if_pos h12, if_neg (fun x => c ⟨x.1, x.2, h12⟩)]
        · rw [if_neg h12]
      · exact absurd st c
theorem step_both {m a : Nat} {ch : Nat → Nat} {X : Tx} {M : Ms} (hT : TX m ch X M) (x3 : X.1 3 = nI a) (m1 : M.1 1 = nI a) (ha : a ≤ m) : ∃ X' M' s e k, f_X4_step X = some X' ∧ f_X8_token M = some M' ∧ X'.2 = X.2 ∧ X'.1 0 = nI m ∧ M'.2 = M.2 ∧ M'.1 0 = nI m ∧ a ≤ s ∧ TK m ch s e k X' M' := by
  obtain ⟨h1, h2, h3, h4, h5, h6⟩ := id hT
  unfold f_X4_step f_X8_token
  rw [lett_d, x3]
  unfold l_X4_step_8 l_X8_token_0
  refine itr_two (fun i z w => z.2 = X.2 ∧ z.1 0 = nI m ∧ z.1 2 = nI (a + i) ∧ w.2 = M.2 ∧ w.1 0 = nI m ∧ w.1 1 = nI (a + i)) (fun r q => ∃ X' M' s e k, r = some X' ∧ q = some M' ∧ X'.2 = X.2 ∧ X'.1 0 = nI m ∧ M'.2 = M.2 ∧ M'.1 0 = nI m ∧ a ≤ s ∧ TK m ch s e k X' M') (m - a) ?_ FU 0 _ _ ⟨rfl, (show upd X.1 2 (nI a) 0 = X.1 0 from up_n (by omega)).trans h2, (show upd X.1 2 (nI a) 2 = nI (a + 0) from up_s), rfl, h3, m1⟩ (Nat.zero_le _) (by rw [FU_d]; omega)
  rintro i z w hi ⟨z2, z0, zs, w2, w0, w1⟩
  have wT : TX m ch X w := ⟨h1, h2, w0, h4, h5, by rw [w2]; exact h6⟩
  have zx : ∀ j, j < m → z.2 j = nI (ch j) := by rw [z2]; exact h5
  have wb := m_byte wT (k := a + i) (by omega)
  -- the token that begins here
  have here : ∀ (hne : a + i < m → ¬ ch (a + i) = 32), ∃ X' M' s e k, f_X4_step_46 z = some X' ∧ f_X8_token_26 w = some M' ∧ X'.2 = X.2 ∧ X'.1 0 = nI m ∧ M'.2 = M.2 ∧ M'.1 0 = nI m ∧ a ≤ s ∧ TK m ch s e k X' M' := by
    intro hne
    generalize hs : a + i = s at *
    have hsm : s ≤ m := by omega
    unfold f_X4_step_46 f_X8_token_26
    obtain ⟨Xa, hXa⟩ : ∃ Xa : Tx, Xa = (upd z.1 3 (z.1 2), z.2) := ⟨_, rfl⟩
    rw [lett_d, ← hXa]
    have a0 : Xa.1 0 = nI m := by rw [hXa]; exact (show upd z.1 3 (z.1 2) 0 = z.1 0 from up_n (by omega)).trans z0
    have a2 : Xa.1 2 = nI s := by rw [hXa]; exact (show upd z.1 3 (z.1 2) 2 = z.1 2 from up_n (by omega)).trans zs
    have a3 : Xa.1 3 = nI s := by rw [hXa]; exact (show upd z.1 3 (z.1 2) 3 = z.1 2 from up_s).trans zs
    have aX : Xa.2 = X.2 := by rw [hXa]; exact z2
    have ax : ∀ j, j < m → Xa.2 j = nI (ch j) := by rw [aX]; exact h5
    obtain ⟨Ma, hMa⟩ : ∃ Ma : Ms, Ma = (upd (upd w.1 2 (w.1 1)) 3 0, w.2) := ⟨_, rfl⟩
    rw [lett_d, lett_d]
    show ∃ X' M' s_1 e k, _ = some X' ∧ (bn (f_X8_byteAt ((upd (upd w.1 2 (w.1 1)) 3 0, w.2).1 1) (upd (upd w.1 2 (w.1 1)) 3 0, w.2)) fun r45 => bn (f_X8_sortOf r45) fun r48 => lett ((upd (upd (upd w.1 2 (w.1 1)) 3 0, w.2).1 4 (r48), (upd (upd w.1 2 (w.1 1)) 3 0, w.2).2)) fun M_51 => l_X8_token_54 FU M_51) = some M' ∧ _
    rw [← hMa]
    have b0 : Ma.1 0 = nI m := by rw [hMa]; exact (show upd (upd w.1 2 (w.1 1)) 3 0 0 = w.1 0 by rw [up_n (by omega), up_n (by omega)]).trans w0
    have b1 : Ma.1 1 = nI s := by rw [hMa]; exact (show upd (upd w.1 2 (w.1 1)) 3 0 1 = w.1 1 by rw [up_n (by omega), up_n (by omega)]).trans w1
    have b2 : Ma.1 2 = nI s := by rw [hMa]; exact (show upd (upd w.1 2 (w.1 1)) 3 0 2 = w.1 1 by rw [up_n (by omega), up_s]).trans w1
    have b3 : Ma.1 3 = nI 0 := by rw [hMa]; exact (show upd (upd w.1 2 (w.1 1)) 3 0 3 = 0 from up_s)
    have bM : Ma.2 = M.2 := by rw [hMa]; exact w2
    have aT : TX m ch X Ma := ⟨h1, h2, b0, h4, h5, by rw [bM]; exact h6⟩
    rw [b1, m_byte aT (by omega), bn_s]
    have lt : (Xa.1 2 < Xa.1 0) = (s < m) := by rw [a0, a2]; exact ltN (by omega) (by omega)
    by_cases hlt : s < m
    · rw [if_pos hlt, m_sort (h4 s hlt), bn_s, lett_d, if_pos (lt.mpr hlt)]
      obtain ⟨Mb, hMb⟩ : ∃ Mb : Ms, Mb = (upd Ma.1 4 (nI (srt (ch s))), Ma.2) := ⟨_, rfl⟩
      rw [← hMb]
      have c0 : Mb.1 0 = nI m := by rw [hMb]; exact (show upd Ma.1 4 (nI (srt (ch s))) 0 = Ma.1 0 from up_n (by omega)).trans b0
      have c1 : Mb.1 1 = nI s := by rw [hMb]; exact (show upd Ma.1 4 (nI (srt (ch s))) 1 = Ma.1 1 from up_n (by omega)).trans b1
      have c2 : Mb.1 2 = nI s := by rw [hMb]; exact (show upd Ma.1 4 (nI (srt (ch s))) 2 = Ma.1 2 from up_n (by omega)).trans b2
      have c3 : Mb.1 3 = nI 0 := by rw [hMb]; exact (show upd Ma.1 4 (nI (srt (ch s))) 3 = Ma.1 3 from up_n (by omega)).trans b3
      have c4 : Mb.1 4 = nI (srt (ch s)) := by rw [hMb]; exact (show upd Ma.1 4 (nI (srt (ch s))) 4 = _ from up_s)
      have cM : Mb.2 = M.2 := by rw [hMb]; exact bM
      have cT : TX m ch X Mb := ⟨h1, h2, c0, h4, h5, by rw [cM]; exact h6⟩
      obtain ⟨M', e1, d1, d2, d3, d4, e, g1, g2, g3, g4, g5, g6⟩ := m_tok54 cT hlt rfl c1 c3 c4
      rw [e1]
      have sp := srt_pos (c := ch s)
      obtain ⟨r, rw1, ew, p1, p2, p3, p4, p5, p6, p7⟩ := s_takeWord h1 a0 h4 ax a2 a3 hsm
      rw [rw1, bn_s]
      by_cases k1 : srt (ch s) = 1
      · have ee : ew = e := EndR_u p1 (by rw [← k1]; exact g5 (Or.inl k1))
        have p1' := p1
        rw [ee] at p1' p2 p7
        rw [if_neg (by rw [p2, if_neg (by omega)]; exact i10)]
        exact ⟨r.2, M', s, e, 1, rfl, rfl, by rw [p3, aX], p4, d1.trans cM, d2, by omega, by omega, g2, p6, p7, g3, d3.trans c2, g4, by rw [d4, k1], Or.inr (Or.inl ⟨rfl, g1, p1', p5⟩)⟩
      · have ee : ew = s := by
          rcases Nat.lt_or_ge s ew with q | q
          · exact absurd (p1.2.2.1 s (Nat.le_refl _) q) k1
          · have := p1.1; omega
        rw [ee] at p2 p7
        have r0 : r.1 = 0 := p2.trans (if_pos (Nat.le_refl _))
        rw [if_pos r0]
        obtain ⟨r2, rn1, en, q1, q2, q3, q4, q5, q6, q7, q8⟩ := s_takeNumber h1 p4 h4 (by rw [p3]; exact ax) p6 p7 hsm
        rw [rn1, bn_s]
        by_cases k2 : srt (ch s) = 2
        · have ee2 : en = e := EndR_u q1 (by rw [← k2]; exact g5 (Or.inr k2))
          have q1' := q1
          rw [ee2] at q1' q2 q5 q7 q8
          rw [if_neg (by rw [q2, if_neg (by omega)]; exact i10)]
          refine ⟨r2.2, M', s, e, 2, rfl, rfl, by rw [q3, p3, aX], q4, d1.trans cM, d2, by omega, by omega, g2, q6, q7, g3, d3.trans c2, g4, by rw [d4, k2], Or.inr (Or.inr (Or.inl ⟨rfl, g1, q1', fun h => ⟨by rw [q5, if_neg (by omega)], by rw [q8, show min 5 (e - s) = e - s by omega]⟩, fun h => by rw [q5, if_pos h]⟩))⟩
        · have ee2 : en = s := by
            rcases Nat.lt_or_ge s en with q | q
            · exact absurd (q1.2.2.1 s (Nat.le_refl _) q) k2
            · have := q1.1; omega
          rw [ee2] at q2 q7
          have r0' : r2.1 = 0 := q2.trans (if_pos (Nat.le_refl _))
          rw [if_pos r0']
          have e59 := srt_3 k1 k2
          have es : e = s + 1 := g6 (by omega)
          have bx : r2.2.2 s = nI (ch s) := by rw [q3, p3]; exact ax s hlt
          rw [q6, gi_n (by omega) (by omega), clN (by omega), bx]
          have z59 : (nI (ch s) = (59 : Int32)) = (ch s = 59) := eqN (b := 59) (by have := h4 s hlt; omega) (by omega)
          have s106 : ∀ t : Nat, ∃ X', f_X4_step_106 (nI t) r2.2 = some X' ∧ X'.2 = X.2 ∧ X'.1 0 = nI m ∧ X'.1 1 = nI t ∧ X'.1 2 = nI s ∧ X'.1 3 = nI (s + 1) := by
            intro t
            unfold f_X4_step_106
            rw [lett_d, lett_d]
            refine ⟨_, rfl, by rw [q3, p3, aX], ?_, ?_, ?_, ?_⟩
            · exact (show upd (upd r2.2.1 1 (nI t)) 3 (upd r2.2.1 1 (nI t) 2 + 1) 0 = r2.2.1 0 by rw [up_n (by omega), up_n (by omega)]).trans q4
            · exact (show upd (upd r2.2.1 1 (nI t)) 3 (upd r2.2.1 1 (nI t) 2 + 1) 1 = nI t by rw [up_n (by omega), up_s])
            · exact (show upd (upd r2.2.1 1 (nI t)) 3 (upd r2.2.1 1 (nI t) 2 + 1) 2 = r2.2.1 2 by rw [up_n (by omega), up_n (by omega)]).trans q6
            · have : upd r2.2.1 1 (nI t) 2 = nI s := (up_n (by omega)).trans q6
              exact (show upd (upd r2.2.1 1 (nI t)) 3 (upd r2.2.1 1 (nI t) 2 + 1) 3 = _ by rw [up_s, this, show nI s + 1 = nI (s + 1) from nI_add s 1])
          by_cases c59 : ch s = 59
          · rw [if_pos (z59.mpr c59)]
            obtain ⟨X', t1, t2, t3, t4, t5, t6⟩ := s106 3
            rw [show (3 : Int32) = nI 3 from rfl, t1]
            exact ⟨X', M', s, e, 3, rfl, rfl, t2, t3, d1.trans cM, d2, by omega, by omega, g2, t5, by rw [es]; exact t6, g3, d3.trans c2, g4, by rw [d4, e59.mpr c59], Or.inr (Or.inr (Or.inr (Or.inl ⟨rfl, g1, t4⟩)))⟩
          · rw [if_neg (fun x => c59 (z59.mp x))]
            obtain ⟨X', t1, t2, t3, t4, t5, t6⟩ := s106 4
            rw [show (4 : Int32) = nI 4 from rfl, t1]
            have k4 : srt (ch s) = 4 := by have : ¬ srt (ch s) = 3 := fun x => c59 (e59.mp x); omega
            exact ⟨X', M', s, e, 4, rfl, rfl, t2, t3, d1.trans cM, d2, by omega, by omega, g2, t5, by rw [es]; exact t6, g3, d3.trans c2, g4, by rw [d4, k4], Or.inr (Or.inr (Or.inr (Or.inr ⟨rfl, g1, t4⟩)))⟩
    · rw [if_neg hlt, m_sort0, bn_s, lett_d, if_neg (fun x => hlt (lt.mp x))]
      obtain ⟨Mb, hMb⟩ : ∃ Mb : Ms, Mb = (upd Ma.1 4 (nI 0), Ma.2) := ⟨_, rfl⟩
      rw [← hMb]
      have c0 : Mb.1 0 = nI m := by rw [hMb]; exact (show upd Ma.1 4 (nI 0) 0 = Ma.1 0 from up_n (by omega)).trans b0
      have c1 : Mb.1 1 = nI s := by rw [hMb]; exact (show upd Ma.1 4 (nI 0) 1 = Ma.1 1 from up_n (by omega)).trans b1
      have c2 : Mb.1 2 = nI s := by rw [hMb]; exact (show upd Ma.1 4 (nI 0) 2 = Ma.1 2 from up_n (by omega)).trans b2
      have c3 : Mb.1 3 = nI 0 := by rw [hMb]; exact (show upd Ma.1 4 (nI 0) 3 = Ma.1 3 from up_n (by omega)).trans b3
      have c4 : Mb.1 4 = nI 0 := by rw [hMb]; exact (show upd Ma.1 4 (nI 0) 4 = _ from up_s)
      have cM : Mb.2 = M.2 := by rw [hMb]; exact bM
      have t54 : l_X8_token_54 FU Mb = some Mb := by
        unfold l_X8_token_54
        show f_X8_token_54 Mb _ = _
        unfold f_X8_token_54
        rw [if_pos (show Mb.1 4 = 0 from c4)]
      rw [t54]
      refine ⟨_, Mb, s, s, 0, rfl, rfl, aX, ?_, cM, c0, by omega, Nat.le_refl _, hsm, ?_, ?_, c1, c2, by rw [Nat.sub_self]; exact c3, c4, Or.inl ⟨rfl, rfl, ?_⟩⟩
      · exact (show upd Xa.1 1 0 0 = Xa.1 0 from up_n (by omega)).trans a0
      · exact (show upd Xa.1 1 0 2 = Xa.1 2 from up_n (by omega)).trans a2
      · exact (show upd Xa.1 1 0 3 = Xa.1 3 from up_n (by omega)).trans a3
      · exact (show upd Xa.1 1 0 1 = 0 from up_s)
  by_cases hlt : i < m - a
  · have hc' := h4 (a + i) (by clear here; omega)
    have z32 : (nI (ch (a + i)) = (32 : Int32)) = (ch (a + i) = 32) := eqN (b := 32) (by clear here; omega) (by omega)
    rw [if_pos (show a + i < m by clear here; omega)] at wb
    by_cases q : ch (a + i) = 32
    · left
      clear here
      refine ⟨hlt, (upd z.1 2 (nI (a + i + 1)), z.2), (upd w.1 1 (nI (a + i + 1)), w.2), ⟨z2, ?_, ?_, w2, ?_, ?_⟩, fun kk => ?_, fun kk => ?_⟩
      · exact (show upd z.1 2 (nI (a + i + 1)) 0 = z.1 0 from up_n (by omega)).trans z0
      · exact (show upd z.1 2 (nI (a + i + 1)) 2 = nI (a + (i + 1)) from up_s)
      · exact (show upd w.1 1 (nI (a + i + 1)) 0 = w.1 0 from up_n (by omega)).trans w0
      · exact (show upd w.1 1 (nI (a + i + 1)) 1 = nI (a + (i + 1)) from up_s)
      · show f_X4_step_8 z _ _ = _
        unfold f_X4_step_8
        rw [if_neg (by rw [z0, zs, leN (by omega) (by omega)]; omega), zs, gi_n (by omega) (by omega), clN (by omega), zx _ (by omega), if_pos (z32.mpr q), lett_d, show nI (a + i) + 1 = nI (a + i + 1) from nI_add _ 1]
      · show f_X8_token_0 w _ _ = _
        unfold f_X8_token_0
        rw [w1, wb, bn_s, if_pos (z32.mpr q), lett_d, show nI (a + i) + 1 = nI (a + i + 1) from nI_add _ 1]
    · right
      refine ⟨_, _, here (fun _ => q), fun kk => ?_, fun kk => ?_⟩
      · clear here
        show f_X4_step_8 z _ _ = _
        unfold f_X4_step_8
        rw [if_neg (by rw [z0, zs, leN (by omega) (by omega)]; omega), zs, gi_n (by omega) (by omega), clN (by omega), zx _ (by omega), if_neg (fun x => q (z32.mp x))]
      · show f_X8_token_0 w _ _ = _
        unfold f_X8_token_0
        rw [w1, wb, bn_s, if_neg (fun x => q (z32.mp x))]
  · right
    rw [if_neg (show ¬ a + i < m by clear here; omega)] at wb
    have ho : a + i < m → ¬ ch (a + i) = 32 := by clear here; intro h; omega
    refine ⟨_, _, here ho, fun kk => ?_, fun kk => ?_⟩
    · clear here
      show f_X4_step_8 z _ _ = _
      unfold f_X4_step_8
      rw [if_pos (by rw [z0, zs, leN (by omega) (by omega)]; omega)]
    · show f_X8_token_0 w _ _ = _
      unfold f_X8_token_0
      rw [w1, wb, bn_s, if_neg (show ¬ (-1 : Int32) = 32 by decide)]
