/-! PURE: a town told by a text, read. -/
theorem m_zero {M : Ms} {K22 : Ms → Option (Int32 × Ms)} : l_X8_reads_2 K22 FU (nI 0) M = K22 (t2N M (fun q => if q < 362 then 0 else M.2.2 2 q)) := by
  unfold l_X8_reads_2
  have start : (nI 0, M) = (fun i => (nI i, t2N M (fun q => if q < i then 0 else M.2.2 2 q))) 0 := by
    show (nI 0, M) = (nI 0, t2N M (fun q => if q < 0 then 0 else M.2.2 2 q))
    have e : (fun q => if q < 0 then 0 else M.2.2 2 q) = M.2.2 2 := by
      funext q
      rw [if_neg (Nat.not_lt_zero _)]
    rw [e]
    unfold t2N
    rw [vu_self]
  rw [start]
  refine itr_st (fun i => (nI i, t2N M (fun q => if q < i then 0 else M.2.2 2 q))) _ 362 ?_ ?_ FU 0 (by omega) (by rw [FU_d]; omega)
  · intro i kk hi
    show f_X8_reads_2 (nI i) (t2N M (fun q => if q < i then 0 else M.2.2 2 q)) (fun x1 M => kk (x1, M)) _ = kk (nI (i + 1), t2N M (fun q => if q < i + 1 then 0 else M.2.2 2 q))
    unfold f_X8_reads_2
    rw [if_neg (by rw [show (362 : Int32) = nI 362 from rfl, leN (by omega) (by omega)]; omega), gi_n (by omega) (by omega), clN (by omega), lett_d, lett_d, t2N_2, show nI i + 1 = nI (i + 1) from nI_add i 1]
    have e : upd (fun q => if q < i then 0 else M.2.2 2 q) i 0 = (fun q => if q < i + 1 then 0 else M.2.2 2 q) := by
      funext q
      unfold upd
      by_cases c : q = i
      · rw [if_pos c, if_pos (by omega)]
      · rw [if_neg c]
        show (if q < i then 0 else M.2.2 2 q) = if q < i + 1 then 0 else M.2.2 2 q
        by_cases d : q < i
        · rw [if_pos d, if_pos (by omega)]
        · rw [if_neg d, if_neg (by omega)]
    rw [e]
    unfold t2N
    dsimp only
    rw [vu_vu]
  · intro kk
    show f_X8_reads_2 (nI 362) _ (fun x1 M => kk (x1, M)) _ = _
    unfold f_X8_reads_2
    rw [if_pos (show (362 : Int32) ≤ nI 362 from Int32.le_refl _)]
def D0N (t : Nat → Int32) : AT := fixR (fun _ => 0, fun _ _ => 0) t
theorem ok_D0 {b : Nat} {t : Nat → Int32} : okA b (D0N t) := okA_fix ⟨Nat.zero_le _, Nat.zero_le _, Nat.zero_le _, Nat.zero_le _, Nat.zero_le _, Nat.zero_le _, Nat.zero_le _, fun p hp => absurd hp (Nat.not_lt_zero _), fun p hp => absurd hp (Nat.not_lt_zero _), fun p hp => absurd hp (Nat.not_lt_zero _)⟩
theorem rM_D0 {t : Nat → Int32} (h : ∀ k, k < 362 → t k = 0) : rM (D0N t) t := by
  refine rM_fix ⟨⟨Nat.zero_le _, Nat.zero_le _, Nat.zero_le _⟩, fun k hk => ?_, fun j _ p hp => absurd hp (Nat.not_lt_zero _), fun j _ p hp => absurd hp (Nat.not_lt_zero _), fun j _ p hp => absurd hp (Nat.not_lt_zero _)⟩
  have := ixS_le hk
  exact h _ (by omega)
theorem s_empty {T : Tw} {t : Nat → Int32} : ok (fun T' => rT (D0N t) T') (f_X5_makeEmpty T) := by
  unfold f_X5_makeEmpty
  simp only [lett_d]
  refine ok_s (rT_fix ⟨fun k hk => ?_, fun j _ p hp => absurd hp (Nat.not_lt_zero _), fun j _ _ p hp => absurd hp (Nat.not_lt_zero _), fun j _ _ p hp => absurd hp (Nat.not_lt_zero _)⟩)
  show upd (upd (upd (upd (upd (upd (upd T.1 0 0) 1 0) 2 0) 3 0) 4 0) 5 0) 6 0 k = nI 0
  have hk' : k = 0 ∨ k = 1 ∨ k = 2 ∨ k = 3 ∨ k = 4 ∨ k = 5 ∨ k = 6 := by omega
  rcases hk' with q | q | q | q | q | q | q <;> subst q <;> simp (disch := omega) only [up_n, up_s] <;> rfl
theorem reads_both {b m : Nat} {ch : Nat → Nat} {X : Tx} {M M1 : Ms} {T : Tw} {D : AT} (hR : RD m ch 0 X M) (hD : DR b D T M) (ht : f_X8_token M = some M1) :
    (∃ i X' T' M' D', l_X4_readTown_11 (fun Xz Tz => f_X4_readTown_75 Xz Tz) (fun Xz Tz => f_X4_readTown_89 Xz Tz) FU (nI 0) X T = some (nI i, X', T') ∧ l_X8_reads_33 FU (nI 0) M1 = some (nI i, M') ∧ i ≤ 150 ∧ kx X X' M M' ∧ X'.1 0 = nI m ∧ M'.1 0 = nI m ∧ DR b D' T' M' ∧ D'.2 10 = D.2 10) ∨ (∃ s X' T' M', l_X4_readTown_11 (fun Xz Tz => f_X4_readTown_75 Xz Tz) (fun Xz Tz => f_X4_readTown_89 Xz Tz) FU (nI 0) X T = some (-10 - nI s, X', T') ∧ l_X8_reads_33 FU (nI 0) M1 = some (-1, M') ∧ s ≤ 150 ∧ kx X X' M M' ∧ X'.1 0 = nI m ∧ M'.1 0 = nI m ∧ M'.1 2 = nI s) := by
  have hm := hR.1.1
  unfold l_X4_readTown_11 l_X8_reads_33
  refine itr_two (fun i z w => ∃ X1 T1 Ma Mb a D1, z = (nI i, X1, T1) ∧ w = (nI i, Mb) ∧ f_X8_token Ma = some Mb ∧ kx X X1 M Ma ∧ RD m ch a X1 Ma ∧ i ≤ a ∧ DR b D1 T1 Ma ∧ D1.2 10 = D.2 10) (fun r q => (∃ i X' T' M' D', r = some (nI i, X', T') ∧ q = some (nI i, M') ∧ i ≤ 150 ∧ kx X X' M M' ∧ X'.1 0 = nI m ∧ M'.1 0 = nI m ∧ DR b D' T' M' ∧ D'.2 10 = D.2 10) ∨ (∃ s X' T' M', r = some (-10 - nI s, X', T') ∧ q = some (-1, M') ∧ s ≤ 150 ∧ kx X X' M M' ∧ X'.1 0 = nI m ∧ M'.1 0 = nI m ∧ M'.1 2 = nI s)) 151 ?_ FU 0 _ _ ⟨X, T, M, M1, 0, D, rfl, rfl, ht, ⟨rfl, rfl, fun _ _ => rfl⟩, hR, Nat.le_refl _, hD, rfl⟩ (Nat.zero_le _) (by rw [FU_d]; omega)
  rintro i z w hi ⟨X1, T1, Ma, Mb, a, D1, rfl, rfl, hta, hk1, hR1, hia, hD1, h10⟩
  have ham := hR1.2.2.2
  obtain ⟨X2, M2, s, e, k, p1, p2, hk2, hM2, hR2, has, hK2⟩ := step_rd hR1
  rw [hta] at p2
  have em := Option.some.inj p2
  subst em
  have hse := hK2.1
  have hem := hK2.2.1
  have hD2 := DR_m hD1 hM2
  have hkk := kx_t hk1 hk2
  have g0 : ¬ X1.1 0 < nI i := by rw [hR1.1.2.1, ltN (by omega) (by omega)]; omega
  have zi : (nI i = (0 : Int32)) = (i = 0) := eqN (b := 0) (by omega) (by omega)
  have zle : (nI i ≤ (0 : Int32)) = (i = 0) := by
    apply propext
    rw [show (0 : Int32) = nI 0 from rfl, leN (by omega) (by omega)]
    omega
  -- is it the end?
  have fin : (X2.1 1 = (0 : Int32)) = (k = 0) ∧ (Mb.1 4 = (0 : Int32)) = (k = 0) ∧ (1 ≤ k → s < e) := by
    obtain ⟨k1, k2, k3, k4, k5, k6, k7, k8, kd⟩ := hK2
    have k4' : k ≤ 4 := by rcases kd with x | x | x | x | x <;> omega
    refine ⟨?_, ?_, ?_⟩
    · apply propext
      rcases kd with ⟨q, y, d⟩ | ⟨q, y, d, f⟩ | ⟨q, y, d, f, g⟩ | ⟨q, y, d⟩ | ⟨q, y, d⟩
      · rw [d, q]; exact ⟨fun _ => rfl, fun _ => rfl⟩
      · rw [f, q]; exact ⟨fun h => absurd h (by decide), fun h => absurd h (by decide)⟩
      · rw [q]
        refine ⟨fun h => ?_, fun h => absurd h (by decide)⟩
        by_cases z : e - s ≤ 5
        · rw [(f z).1] at h; exact absurd h (by decide)
        · rw [g (by omega)] at h; exact absurd h (by decide)
      · rw [d, q]; exact ⟨fun h => absurd h (by decide), fun h => absurd h (by decide)⟩
      · rw [d, q]; exact ⟨fun h => absurd h (by decide), fun h => absurd h (by decide)⟩
    · rw [k8]; exact eqN (b := 0) (by omega) (by omega)
    · intro h
      rcases kd with x | x | x | x | x <;> omega
  obtain ⟨f1, f2, f3⟩ := fin
  by_cases over : k = 0 ∧ ¬ i = 0
  · right
    refine ⟨some (nI i, X2, T1), some (nI i, Mb), Or.inl ⟨i, X2, T1, Mb, D1, rfl, rfl, by omega, hkk, hR2.1.2.1, hR2.1.2.2.1, hD2, h10⟩, fun kk => ?_, fun kk => ?_⟩
    · show f_X4_readTown_11 (nI i) X1 T1 _ _ _ = _
      unfold f_X4_readTown_11
      rw [if_neg g0, p1, bn_s, if_pos (f1.mpr over.1), if_neg (fun x => over.2 (zle.mp x))]
    · show f_X8_reads_33 (nI i) Mb _ = _
      unfold f_X8_reads_33
      rw [if_pos (f2.mpr over.1), if_neg (fun x => over.2 (zi.mp x))]
  · have b7 : ∀ K11 K75 K89, f_X4_readTown_11 (nI i) X1 T1 K11 K75 K89 = f_X4_readTown_36 (nI i) X2 T1 K11 K75 := by
      intro K11 K75 K89
      unfold f_X4_readTown_11
      rw [if_neg g0, p1, bn_s]
      by_cases c : k = 0
      · have i0 : i = 0 := by
          by_cases q : i = 0
          · exact q
          · exact absurd ⟨c, q⟩ over
        rw [if_pos (f1.mpr c), if_pos (zle.mpr i0)]
      · rw [if_neg (fun x => c (f1.mp x))]
    have b8 : ∀ K33, f_X8_reads_33 (nI i) Mb K33 = f_X8_reads_44 (nI i) Mb K33 := by
      intro K33
      unfold f_X8_reads_33
      by_cases c : k = 0
      · have i0 : i = 0 := by
          by_cases q : i = 0
          · exact q
          · exact absurd ⟨c, q⟩ over
        rw [if_pos (f2.mpr c), if_pos (zi.mpr i0)]
      · rw [if_neg (fun x => c (f2.mp x))]
    by_cases k0 : k = 0
    · -- nothing is told: a fault
      have i0 : i = 0 := by
        by_cases q : i = 0
        · exact q
        · exact absurd ⟨k0, q⟩ over
      rcases item_step (a := e) hR2 hK2 hD2 (show i < 1000 by omega) (Nat.le_refl _) with ⟨X', T', M', M3, e', D', c1, c2, c3, c4, c5, c6, c7, c8⟩ | ⟨X', T', M', c1, c2, c4, c5, c6, s', c7, c8, c9⟩
      · exfalso
        have bad : f_X4_readTown_36 (nI i) X2 T1 (fun _ _ _ => none) (fun X T => some (0, X, T)) = none := c1 (fun _ _ _ => none) (fun X T => some (0, X, T))
        have w0 := (s_isWord (i := 0) (by omega) hR2.1 hK2).2 (fun h => absurd h.1 (by omega))
        unfold f_X4_readTown_36 f_X4_readTown_61 f_X4_readTown_70 at bad
        rw [if_pos (zi.mpr i0), w0, bn_s, if_pos rfl, if_pos rfl] at bad
        cases bad
      · right
        refine ⟨some (-10 - nI s', X', T'), some (-1, M'), Or.inr ⟨s', X', T', M', rfl, rfl, by omega, kx_t hkk c4, c5, c6, c8⟩, fun kk => ?_, fun kk => ?_⟩
        · show f_X4_readTown_11 (nI i) X1 T1 _ _ _ = _
          rw [b7]
          refine (c1 _ _).trans ?_
          unfold f_X4_readTown_75
          rw [c7]
        · show f_X8_reads_33 (nI i) Mb _ = _
          rw [b8]
          exact c2 _
    · have hlt : s < e := f3 (by omega)
      rcases item_step (a := e) hR2 hK2 hD2 (show i < 1000 by omega) (Nat.le_refl _) with ⟨X', T', M', M3, e', D', c1, c2, c3, c4, c5, c6, c7, c8⟩ | ⟨X', T', M', c1, c2, c4, c5, c6, s', c7, c8, c9⟩
      · left
        have he' := c5.2.2.2
        refine ⟨by omega, (nI (i + 1), X', T'), (nI (i + 1), M3), ⟨X', T', M', M3, e', D', rfl, rfl, c3, kx_t hkk c4, c5, by omega, c7, c8.trans h10⟩, fun kk => ?_, fun kk => ?_⟩
        · show f_X4_readTown_11 (nI i) X1 T1 _ _ _ = _
          rw [b7]
          exact c1 _ _
        · show f_X8_reads_33 (nI i) Mb _ = _
          rw [b8]
          exact c2 _
      · right
        refine ⟨some (-10 - nI s', X', T'), some (-1, M'), Or.inr ⟨s', X', T', M', rfl, rfl, by omega, kx_t hkk c4, c5, c6, c8⟩, fun kk => ?_, fun kk => ?_⟩
        · show f_X4_readTown_11 (nI i) X1 T1 _ _ _ = _
          rw [b7]
          refine (c1 _ _).trans ?_
          unfold f_X4_readTown_75
          rw [c7]
        · show f_X8_reads_33 (nI i) Mb _ = _
          rw [b8]
          exact c2 _
section
variable {b : Nat} {B : Nat → Int32} {N : Tw} {P : Ps} {I1 : Int32} {T1 : Tw} {P1 : Ps} {I2 : Int32} {T2 : Tw} {P2 : Ps} {X : Tx} {K : Ch} {M : Ms}
theorem neg10 {s : Nat} (h : s ≤ 150) : ¬ (0 : Int32) ≤ -10 - nI s := by
  have key : ∀ s : Fin 151, ¬ (0 : Int32) ≤ -10 - nI s.val := by decide +kernel
  exact key ⟨s, by omega⟩
theorem q_read (h : SR b B N P I1 T1 P1 I2 T2 P2 X K M) (R : Tw) : ∃ r N' P' X' R' M', f_X7_read B N P X R = some (r, N', P', X', R') ∧ f_X8_read M = some (r, M') ∧ SR (b + 96) B N' P' I1 T1 P1 I2 T2 P2 X' K M' := by
  obtain ⟨m, hm, x0, n0, hx⟩ := h.2.2.2.2.1
  obtain ⟨ch, hch⟩ : ∃ ch : Nat → Nat, ∀ j, j < m → ch j ≤ 127 ∧ X.2 j = nI (ch j) ∧ M.2.2 6 j = nI (ch j) := by
    refine ⟨fun j => if hj : j < m then Classical.choose (hx j hj) else 0, fun j hj => ?_⟩
    have := Classical.choose_spec (hx j hj)
    simp only [dif_pos hj]
    exact this
  -- the draft is emptied
  obtain ⟨t0, ht0⟩ : ∃ t0 : Nat → Int32, t0 = fun q => if q < 362 then 0 else M.2.2 2 q := ⟨_, rfl⟩
  have tz : ∀ k, k < 362 → t0 k = 0 := fun k hk => by rw [ht0]; exact if_pos hk
  obtain ⟨Xa, hXa⟩ : ∃ Xa : Tx, Xa = (upd X.1 3 0, X.2) := ⟨_, rfl⟩
  obtain ⟨Ma, hMa⟩ : ∃ Ma : Ms, Ma = (upd M.1 1 0, (t2N M t0).2) := ⟨_, rfl⟩
  have ka : kx X Xa M Ma := by
    rw [hXa, hMa]
    exact ⟨rfl, rfl, fun r hr => (vu_n hr : va_up M.2.2 2 t0 r = M.2.2 r)⟩
  have xa0 : Xa.1 0 = nI m := by rw [hXa]; exact (show upd X.1 3 0 0 = X.1 0 from up_n (by omega)).trans x0
  have ma0 : Ma.1 0 = nI m := by rw [hMa]; exact (show upd M.1 1 0 0 = M.1 0 from up_n (by omega)).trans n0
  have hT : TX m ch X M := ⟨hm, x0, n0, fun j hj => (hch j hj).1, fun j hj => (hch j hj).2.1, fun j hj => (hch j hj).2.2⟩
  have hR : RD m ch 0 Xa Ma := ⟨TX_t hT ka xa0 ma0, by rw [hXa]; exact (show upd X.1 3 0 3 = nI 0 from up_s), by rw [hMa]; exact (show upd M.1 1 0 1 = nI 0 from up_s), Nat.zero_le _⟩
  obtain ⟨Ra, er, hRa⟩ := s_empty (T := R) (t := t0)
  have hD : DR b (D0N t0) Ra Ma := ⟨hRa, by rw [hMa]; exact (show rM (D0N t0) ((t2N M t0).2.2 2) by rw [t2N_2]; exact rM_D0 tz), ok_D0⟩
  obtain ⟨_, Mt, _, _, _, _, tk, _⟩ := step_rd hR
  have out := reads_both hR hD tk
  -- the text is as it was
  have keepX : ∀ X' M', kx Xa X' Ma M' → X'.1 0 = nI m → M'.1 0 = nI m → SRx X' (M'.1 0) (M'.2.2 6) := by
    intro X' M' hk hx0 hm0
    have hk' := kx_t ka hk
    refine ⟨m, hm, hx0, hm0, fun j hj => ⟨ch j, (hch j hj).1, ?_, ?_⟩⟩
    · rw [hk'.1]; exact (hch j hj).2.1
    · rw [hk'.2.2 6 (by omega)]; exact (hch j hj).2.2
  have reads : f_X8_reads M = l_X8_reads_33 FU (nI 0) Mt := by
    unfold f_X8_reads
    rw [lett_d, show (0 : Int32) = nI 0 from rfl, m_zero, ← ht0]
    unfold f_X8_reads_22
    rw [lett_d]
    show bn (f_X8_token (upd M.1 1 0, (t2N M t0).2)) (fun r28 => lett 0 fun x1_32 => l_X8_reads_33 FU x1_32 r28) = _
    rw [← hMa, tk, bn_s, lett_d]
    rfl
  have town : f_X4_readTown X R = l_X4_readTown_11 (fun Xz Tz => f_X4_readTown_75 Xz Tz) (fun Xz Tz => f_X4_readTown_89 Xz Tz) FU (nI 0) Xa Ra := by
    unfold f_X4_readTown
    rw [lett_d, er, bn_s, lett_d, hXa]
    rfl
  obtain ⟨h1, h2, h3, h4, h5, h6⟩ := SR_96 h
  unfold f_X7_read f_X8_read
  rw [reads, town]
  rcases out with ⟨i, X', T', M', D', o1, o2, o3, o4, o5, o6, o7, o8⟩ | ⟨s, X', T', M', o1, o2, o3, o4, o5, o6, o7⟩
  · have hkk := kx_t ka o4
    obtain ⟨dT, dM, dO⟩ := o7
    rw [o1, o2, bn_s, bn_s, if_pos (show (0 : Int32) ≤ nI i by rw [show (0 : Int32) = nI 0 from rfl, leN (by omega) (by omega)]; omega), if_neg (neg1 (q := i) (by omega))]
    obtain ⟨N', eN, cN⟩ := s_copy N T'
    have ecp := m_copy (M'.2.2 2) (M'.2.2 0) (show 0 + 362 ≤ 362 by omega) (show 0 + 362 ≤ 362 by omega) (by omega) (by omega)
    rw [eN, bn_s]
    unfold f_X3_forget
    rw [lett_d, bn_s, show f_X8_copy 362 362 0 0 (M'.2.2 2) (M'.2.2 0) = _ from ecp, bn_s, lett_d]
    refine ⟨_, _, _, _, _, _, rfl, rfl, ?_⟩
    generalize htn : va_cpy (M'.2.2 2) (M'.2.2 0) 0 0 362 = tn
    have tk' : ∀ k, k < 362 → tn k = M'.2.2 2 k := by
      intro k hk
      rw [← htn, cpy_in (by omega) (by omega)]
      exact congrArg _ (by omega)
    have hd : D'.1 4 ≤ 6 ∧ D'.1 5 ≤ 8 ∧ D'.1 6 ≤ 8 := dM.1
    have r5 : rM5 D' tn := by
      refine ⟨hd, fun k hk => ?_, fun j hj p hp => ?_, fun j hj p hp => ?_, fun j hj p hp => ?_⟩
      · have := ixS_le hk
        rw [tk' _ (by omega)]; exact dM.2.1 k hk
      · rw [tk' _ (by omega)]; exact dM.2.2.1 j hj p hp
      · rw [tk' _ (by omega)]; exact dM.2.2.2.1 j hj p hp
      · rw [tk' _ (by omega)]; exact dM.2.2.2.2.1 j hj p hp
    have t7 : tn 7 = nI 0 := by
      rw [tk' 7 (by omega), dM.2.2.2.2.2 7 (by omega), o8]
      have e10 : nI ((D0N t0).2 10 7) = t0 7 := fixR_10
      rw [e10, tz 7 (by omega)]
      rfl
    have hS : SRt (b + 96) N' (0, P.2) tn := ⟨fixR D' tn, (0, fun _ => momN D'), rT_fix (rT_cp dT cN hd), rM_fix r5, okA_mono (okA_fix dO) (by omega), ⟨rfl, fun e he => absurd he (Nat.not_lt_zero _)⟩, ⟨t7, fun e he => absurd he (Nat.not_lt_zero _)⟩, Nat.zero_le _, fun e he => absurd he (Nat.not_lt_zero _)⟩
    have kr : ∀ r, r = 3 ∨ r = 4 ∨ r = 5 ∨ r = 6 → va_up M'.2.2 0 tn r = M.2.2 r := fun r hr => by
      rw [vu_n (by omega)]
      exact hkk.2.2 r (by omega)
    unfold SR
    show (∀ i, i < 3 → B i = va_up M'.2.2 0 tn 5 i) ∧ SRt (b + 96) N' (0, P.2) (va_up M'.2.2 0 tn 0) ∧ SRi (b + 96) I1 T1 P1 (va_up M'.2.2 0 tn 4 0) (fun j => va_up M'.2.2 0 tn 3 j) ∧ SRi (b + 96) I2 T2 P2 (va_up M'.2.2 0 tn 4 1) (fun j => va_up M'.2.2 0 tn 3 (362 + j)) ∧ SRx X' (M'.1 0) (va_up M'.2.2 0 tn 6) ∧ (K.1 0 = M'.2.1 0 ∧ K.1 1 = M'.2.1 1)
    rw [kr 5 (by omega), kr 4 (by omega), kr 3 (by omega), vu_s, vu_n (show (6 : Nat) ≠ 0 by omega), hkk.2.1]
    exact ⟨h1, hS, h3, h4, keepX X' M' o4 o5 o6, h6⟩
  · have hkk := kx_t ka o4
    rw [o1, o2, bn_s, bn_s, if_neg (neg10 o3), if_pos rfl, o7]
    refine ⟨_, _, _, _, _, _, rfl, rfl, ?_⟩
    unfold SR
    rw [hkk.2.2 5 (by omega), hkk.2.2 0 (by omega), hkk.2.2 4 (by omega), hkk.2.2 3 (by omega), hkk.2.1]
    exact ⟨h1, h2, h3, h4, keepX X' M' o4 o5 o6, h6⟩
end
