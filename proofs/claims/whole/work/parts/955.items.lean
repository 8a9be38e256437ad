/-! PURE: the items of the text. -/
/-- the draft's row in the model -/
def t2N (M : Ms) (t : Nat → Int32) : Ms := (M.1, M.2.1, va_up M.2.2 2 t)
theorem t2N_2 {M : Ms} {t : Nat → Int32} : (t2N M t).2.2 2 = t := (vu_s : va_up M.2.2 2 t 2 = t)
theorem kx_d {X : Tx} {M : Ms} {t : Nat → Int32} : kx X X M (t2N M t) := ⟨rfl, rfl, fun r hr => (vu_n hr : va_up M.2.2 2 t r = M.2.2 r)⟩
theorem RD_d {m a : Nat} {ch : Nat → Nat} {X : Tx} {M : Ms} {t : Nat → Int32} (h : RD m ch a X M) : RD m ch a X (t2N M t) := ⟨TX_t h.1 kx_d h.1.2.1 h.1.2.2.1, h.2.1, h.2.2.1, h.2.2.2⟩
/-- the towns that are being read -/
def DR (b : Nat) (D : AT) (T : Tw) (M : Ms) : Prop := rT D T ∧ rM D (M.2.2 2) ∧ okA b D
theorem DR_m {b : Nat} {D : AT} {T : Tw} {M M' : Ms} (h : DR b D T M) (e : M'.2 = M.2) : DR b D T M' := ⟨h.1, by rw [e]; exact h.2.1, h.2.2⟩
/-- how an item goes out: both well, at the item's end; or both not, at the same place -/
def OUT (b m : Nat) (ch : Nat → Nat) (a : Nat) (D0 : AT) (X : Tx) (M : Ms) (c : Option (Int32 × Tx × Tw)) (r : Option (Int32 × Ms)) : Prop :=
  (∃ X' T' M1 M' e D, c = some (1, X', T') ∧ r = some (1, M1) ∧ f_X8_token M1 = some M' ∧ M'.1 4 = 3 ∧ kx X X' M M' ∧ RD m ch e X' M' ∧ a ≤ e ∧ DR b D T' M' ∧ D.2 10 = D0.2 10) ∨ (∃ X' T' M' s, c = some (0, X', T') ∧ r = some (0, M') ∧ kx X X' M M' ∧ X'.1 0 = nI m ∧ M'.1 0 = nI m ∧ X'.1 2 = nI s ∧ M'.1 2 = nI s ∧ s ≤ m) ∨ (∃ X' T' M1 M' s, c = some (0, X', T') ∧ r = some (1, M1) ∧ f_X8_token M1 = some M' ∧ ¬ M'.1 4 = 3 ∧ kx X X' M M' ∧ X'.1 0 = nI m ∧ M'.1 0 = nI m ∧ X'.1 2 = nI s ∧ M'.1 2 = nI s ∧ s ≤ m)
/-- the end of an item whose town is already told -/
theorem out_end {b m a a0 : Nat} {ch : Nat → Nat} {D0 D : AT} {X0 X : Tx} {M0 M : Ms} {T : Tw} (h : RD m ch a X M) (hk : kx X0 X M0 M) (hD : DR b D T M) (h10 : D.2 10 = D0.2 10) (ha : a0 ≤ a) : OUT b m ch a0 D0 X0 M0 (bn (f_X4_itemEnds X) fun r21 => some (r21.1, (r21.2, T))) (some (1, M)) := by
  obtain ⟨X', M', s, e, k, r, p1, p2, hk', hM, hR, hK, hs, hr⟩ := end_both h
  rw [p1, bn_s]
  have hse := hK.1
  rcases hr with ⟨r1, r2⟩ | ⟨r1, r2⟩
  · left
    rw [r1]
    exact ⟨X', T, M, M', e, D, rfl, rfl, p2, r2, kx_t hk hk', hR, by omega, DR_m hD hM, h10⟩
  · right; right
    rw [r1]
    exact ⟨X', T, M, M', s, rfl, rfl, p2, r2, kx_t hk hk', hR.1.2.1, hR.1.2.2.1, hK.2.2.1, hK.2.2.2.2.2.1, by have := hK.2.1; omega⟩
theorem out_no {b m a0 : Nat} {ch : Nat → Nat} {D0 : AT} {X0 X : Tx} {M0 M : Ms} {T : Tw} {s e k : Nat} (hR : RD m ch e X M) (hK : TK m ch s e k X M) (hk : kx X0 X M0 M) : OUT b m ch a0 D0 X0 M0 (some (0, (X, T))) (some (0, M)) :=
  Or.inr (Or.inl ⟨X, T, M, s, rfl, rfl, hk, hR.1.2.1, hR.1.2.2.1, hK.2.2.1, hK.2.2.2.2.2.1, by have := hK.1; have := hK.2.1; omega⟩)
theorem in_lit {d lo hi : Nat} (h : f_X8_in (nI d) (nI lo) (nI hi) = some 1) (hd : d ≤ 99999) (hl : lo < 1000000) (hh : hi < 1000000) : lo ≤ d ∧ d ≤ hi := by
  unfold f_X8_in at h
  by_cases h1 : nI d < nI lo
  · rw [if_pos h1] at h; exact absurd (Option.some.inj h) (by decide)
  · rw [if_neg h1] at h
    by_cases h2 : nI hi < nI d
    · rw [if_pos h2] at h; exact absurd (Option.some.inj h) (by decide)
    · rw [ltN (by omega) (by omega)] at h1 h2
      omega
theorem n1 {d : Nat} (h : d ≤ 99999) : ¬ nI d = (-1 : Int32) := by
  intro e
  have q := congrArg Int32.toInt e
  rw [nI_toInt (by omega)] at q
  have e2 : (-1 : Int32).toInt = -1 := by decide
  rw [e2] at q
  omega
theorem chest_both {b m a : Nat} {ch : Nat → Nat} {D : AT} {X : Tx} {M : Ms} {T : Tw} (h : RD m ch a X M) (hD : DR b D T M) : OUT b m ch a D X M (f_X4_chestItem X T) (f_X8_readsItem (nI 0) M) := by
  unfold f_X4_chestItem f_X8_readsItem f_X8_readsOne f_X8_readsOne_13
  rw [if_neg (show ¬ (2 : Int32) ≤ nI 0 by decide), if_pos (show nI 0 = 0 from rfl)]
  obtain ⟨X', M', s, e, k, r, v, p1, p2, hk, hM, hR, hK, ha, hr⟩ := fig_both 0 99999 h
  have hse := hK.1
  rw [p1, p2, bn_s, bn_s]
  rcases hr with ⟨r1, r2, r3, d, r4, r5⟩ | ⟨r1, r2⟩
  · have hd := in_lit (lo := 0) (hi := 99999) (by rw [← r5]; exact r3) r4 (by omega) (by omega)
    have nv : ¬ v = -1 := by rw [r5]; exact n1 r4
    rw [r1, if_neg i10, if_neg nv, if_pos (show nI 0 = 0 from rfl)]
    unfold f_X8_readsOne_37
    rw [show (0 : Int32) = nI 0 from rfl, gi_n (by omega) (by omega), clN (by omega), lett_d, lett_d, r2, r5, bn_s]
    have hD' := DR_m hD hM
    exact out_end (D := setS D 0 d) (M := t2N M' (upd (M'.2.2 2) 0 (nI d))) (RD_d hR) (kx_t hk kx_d) ⟨rT_setS hD'.1 (by omega), by rw [t2N_2]; exact rM_setS (k := 0) hD'.2.1 (by omega), okA_chest hD'.2.2 hd.2⟩ rfl (by omega)
  · rw [r1, if_pos rfl, if_pos r2, bn_s]
    exact out_no hR hK hk
theorem rate_both {b m a : Nat} {ch : Nat → Nat} {D : AT} {X : Tx} {M : Ms} {T : Tw} (h : RD m ch a X M) (hD : DR b D T M) : OUT b m ch a D X M (f_X4_rateItem X T) (f_X8_readsItem (nI 1) M) := by
  unfold f_X4_rateItem f_X8_readsItem f_X8_readsOne f_X8_readsOne_13
  rw [if_neg (show ¬ (2 : Int32) ≤ nI 1 by decide), if_neg (show ¬ nI 1 = 0 by decide)]
  obtain ⟨X', M', s, e, k, r, v, p1, p2, hk, hM, hR, hK, ha, hr⟩ := fig_both 0 50 h
  have hse := hK.1
  rw [p1, p2, bn_s, bn_s]
  rcases hr with ⟨r1, r2, r3, d, r4, r5⟩ | ⟨r1, r2⟩
  · have hd := in_lit (lo := 0) (hi := 50) (by rw [← r5]; exact r3) r4 (by omega) (by omega)
    have nv : ¬ v = -1 := by rw [r5]; exact n1 r4
    rw [r1, if_neg i10, if_neg nv, if_neg (show ¬ nI 1 = 0 by decide)]
    unfold f_X8_readsOne_37
    rw [show (1 : Int32) = nI 1 from rfl, gi_n (by omega) (by omega), clN (by omega), lett_d, lett_d, r2, r5, bn_s]
    have hD' := DR_m hD hM
    exact out_end (D := setS D 1 d) (M := t2N M' (upd (M'.2.2 2) 1 (nI d))) (RD_d hR) (kx_t hk kx_d) ⟨rT_setS hD'.1 (by omega), by rw [t2N_2]; exact rM_setS (k := 1) hD'.2.1 (by omega), okA_rate hD'.2.2 hd.2⟩ rfl (by omega)
  · rw [r1, if_pos rfl, if_pos r2, bn_s]
    exact out_no hR hK hk
theorem person_both {b m a : Nat} {ch : Nat → Nat} {D : AT} {X : Tx} {M : Ms} {T : Tw} (h : RD m ch a X M) (hD : DR b D T M) (h6 : D.1 4 < 6) : OUT b m ch a D X M (f_X4_personItem X T) (f_X8_readsItem (nI 2) M) := by
  unfold f_X4_personItem f_X8_readsItem
  rw [if_pos (show (2 : Int32) ≤ nI 2 by decide), if_pos (show nI 2 = 2 from rfl)]
  obtain ⟨X1, M1, s1, e1, k1, r1, v1, p1, q1, hk1, hM1, hR1, hK1, ha1, hr1⟩ := fig_both 0 5 h
  have hse1 := hK1.1
  rw [p1, q1, bn_s, bn_s]
  unfold f_X8_readsItem_47
  rcases hr1 with ⟨a1, a2, a3, d1, a4, a5⟩ | ⟨a1, a2⟩
  · have hd1 := in_lit (lo := 0) (hi := 5) (by rw [← a5]; exact a3) a4 (by omega) (by omega)
    have nv1 : ¬ v1 = -1 := by rw [a5]; exact n1 a4
    rw [a1, if_neg i10, if_neg nv1, if_pos (show nI 2 = 2 from rfl)]
    obtain ⟨X2, M2, s2, e2, k2, r2, v2, p2, q2, hk2, hM2, hR2, hK2, ha2, hr2⟩ := fig_both 0 99 hR1
    have hse2 := hK2.1
    rw [p2, q2, bn_s, bn_s]
    unfold f_X8_readsItem_77
    rcases hr2 with ⟨b1, b2, b3, d2, b4, b5⟩ | ⟨b1, b2⟩
    · have hd2 := in_lit (lo := 0) (hi := 99) (by rw [← b5]; exact b3) b4 (by omega) (by omega)
      have nv2 : ¬ v2 = -1 := by rw [b5]; exact n1 b4
      rw [b1, if_neg i10, if_neg nv2, if_pos (show nI 2 = 2 from rfl)]
      obtain ⟨X3, M3, s3, e3, k3, r3, v3, p3, q3, hk3, hM3, hR3, hK3, ha3, hr3⟩ := fig_both 0 9999 hR2
      have hse3 := hK3.1
      rw [p3, q3, bn_s, bn_s]
      unfold f_X8_readsItem_108
      rcases hr3 with ⟨c1, c2, c3, d3, c4, c5⟩ | ⟨c1, c2⟩
      · have hd3 := in_lit (lo := 0) (hi := 9999) (by rw [← c5]; exact c3) c4 (by omega) (by omega)
        have nv3 : ¬ v3 = -1 := by rw [c5]; exact n1 c4
        have hD3 := DR_m (DR_m (DR_m hD hM1) hM2) hM3
        obtain ⟨rp, y1, y2, y3⟩ := s_addPerson hD3.1 h6 d1 d2 d3
        obtain ⟨t3, z1, z2⟩ := m_addPerson hD3.2.1 h6 d1 d2 d3
        rw [c1, if_neg i10, if_neg nv3, if_pos (show nI 2 = 2 from rfl), a2, a5, b2, b5, c2, c5, y1, z1, bn_s, bn_s, lett_d]
        exact out_end (D := addPN D d1 d2 d3) (M := t2N M3 t3) (RD_d hR3) (kx_t (kx_t (kx_t hk1 hk2) hk3) kx_d) ⟨y3, by rw [t2N_2]; exact z2, okA_addPN hD3.2.2 h6 hd1.2 hd2.2 hd3.2⟩ ((addPN_v (q := 0)).2.2.2 10 (by omega)) (by omega)
      · rw [c1, if_pos rfl, if_pos c2]
        exact out_no hR3 hK3 (kx_t (kx_t hk1 hk2) hk3)
    · rw [b1, if_pos rfl, if_pos b2]
      exact out_no hR2 hK2 (kx_t hk1 hk2)
  · rw [a1, if_pos rfl, if_pos a2]
    exact out_no hR1 hK1 hk1
theorem loan_both {b m a : Nat} {ch : Nat → Nat} {D : AT} {X : Tx} {M : Ms} {T : Tw} (h : RD m ch a X M) (hD : DR b D T M) (h8 : D.1 5 < 8) : OUT b m ch a D X M (f_X4_loanItem X T) (f_X8_readsItem (nI 3) M) := by
  have a4' := hD.2.2.2.2.2.2.1
  have t4 : T.1 4 = nI (D.1 4) := hD.1.1 4 (by omega)
  have g3 : M.2.2 2 3 = nI (D.1 4) := hD.2.1.2.1 4 (by omega)
  unfold f_X4_loanItem f_X8_readsItem
  rw [if_pos (show (2 : Int32) ≤ nI 3 by decide), if_neg (show ¬ nI 3 = 2 by decide), if_pos (show nI 3 = 3 from rfl), show (3 : Int32) = nI 3 from rfl, gi_n (by omega) (by omega), clN (j := 3) (by omega), t4, g3]
  obtain ⟨X1, M1, s1, e1, k1, r1, v1, p1, q1, hk1, hM1, hR1, hK1, ha1, hr1⟩ := fig_both 0 (nI (D.1 4) - 1) h
  have hse1 := hK1.1
  rw [p1, q1, bn_s, bn_s]
  unfold f_X8_readsItem_47
  rcases hr1 with ⟨a1, a2, a3, d1, a4, a5⟩ | ⟨a1, a2⟩
  · have hd1 : d1 < D.1 4 := by
      rcases below_cases v1 (D.1 4) (by omega) with ⟨j, hj, ej, _, _, _⟩ | ⟨x0, _⟩
      · rw [a5] at ej
        rw [eqN (by omega) (by omega)] at ej
        omega
      · rw [show f_X8_in v1 (nI 0) (nI (D.1 4) - nI 1) = some 1 from a3] at x0
        exact absurd (Option.some.inj x0) (by decide)
    have nv1 : ¬ v1 = -1 := by rw [a5]; exact n1 a4
    rw [a1, if_neg i10, if_neg nv1, if_neg (show ¬ nI 3 = 2 by decide)]
    obtain ⟨X2, M2, s2, e2, k2, r2, v2, p2, q2, hk2, hM2, hR2, hK2, ha2, hr2⟩ := fig_both 1 99 hR1
    have hse2 := hK2.1
    rw [p2, q2, bn_s, bn_s]
    unfold f_X8_readsItem_77
    rcases hr2 with ⟨b1, b2, b3, d2, b4, b5⟩ | ⟨b1, b2⟩
    · have hd2 := in_lit (lo := 1) (hi := 99) (by rw [← b5]; exact b3) b4 (by omega) (by omega)
      have nv2 : ¬ v2 = -1 := by rw [b5]; exact n1 b4
      rw [b1, if_neg i10, if_neg nv2, if_neg (show ¬ nI 3 = 2 by decide)]
      obtain ⟨X3, M3, s3, e3, k3, r3, v3, p3, q3, hk3, hM3, hR3, hK3, ha3, hr3⟩ := fig_both 1 12 hR2
      have hse3 := hK3.1
      rw [p3, q3, bn_s, bn_s]
      unfold f_X8_readsItem_108
      rcases hr3 with ⟨c1, c2, c3, d3, c4, c5⟩ | ⟨c1, c2⟩
      · have hd3 := in_lit (lo := 1) (hi := 12) (by rw [← c5]; exact c3) c4 (by omega) (by omega)
        have nv3 : ¬ v3 = -1 := by rw [c5]; exact n1 c4
        have hD3 := DR_m (DR_m (DR_m hD hM1) hM2) hM3
        obtain ⟨rp, y1, y2, y3⟩ := s_addLoan hD3.1 h8 d1 d2 d3
        obtain ⟨t3, z1, z2⟩ := m_addLoan hD3.2.1 h8 d1 d2 d3
        rw [c1, if_neg i10, if_neg nv3, if_neg (show ¬ nI 3 = 2 by decide), if_pos (show nI 3 = 3 from rfl), a2, a5, b2, b5, c2, c5, y1, z1, bn_s, bn_s, lett_d]
        exact out_end (D := addLN D d1 d2 d3) (M := t2N M3 t3) (RD_d hR3) (kx_t (kx_t (kx_t hk1 hk2) hk3) kx_d) ⟨y3, by rw [t2N_2]; exact z2, okA_addLN hD3.2.2 h8 hd1 hd2 hd3⟩ ((addLN_v (q := 0)).2.2.2.2.2 10 (by omega)) (by omega)
      · rw [c1, if_pos rfl, if_pos c2]
        exact out_no hR3 hK3 (kx_t (kx_t hk1 hk2) hk3)
    · rw [b1, if_pos rfl, if_pos b2]
      exact out_no hR2 hK2 (kx_t hk1 hk2)
  · rw [a1, if_pos rfl, if_pos a2]
    exact out_no hR1 hK1 hk1
theorem offer_both {b m a : Nat} {ch : Nat → Nat} {D : AT} {X : Tx} {M : Ms} {T : Tw} (h : RD m ch a X M) (hD : DR b D T M) (h8 : D.1 6 < 8) : OUT b m ch a D X M (f_X4_offerItem X T) (f_X8_readsItem (nI 4) M) := by
  unfold f_X4_offerItem f_X8_readsItem f_X8_readsItem_47
  rw [if_pos (show (2 : Int32) ≤ nI 4 by decide), if_neg (show ¬ nI 4 = 2 by decide), if_neg (show ¬ nI 4 = 3 by decide), if_neg (show ¬ (0 : Int32) = -1 by decide)]
  obtain ⟨X2, M2, s2, e2, k2, r2, v2, p2, q2, hk2, hM2, hR2, hK2, ha2, hr2⟩ := fig_both 1 99 h
  have hse2 := hK2.1
  rw [p2, q2, bn_s, bn_s]
  unfold f_X8_readsItem_77
  rcases hr2 with ⟨b1, b2, b3, d2, b4, b5⟩ | ⟨b1, b2⟩
  · have hd2 := in_lit (lo := 1) (hi := 99) (by rw [← b5]; exact b3) b4 (by omega) (by omega)
    have nv2 : ¬ v2 = -1 := by rw [b5]; exact n1 b4
    rw [b1, if_neg i10, if_neg nv2, if_neg (show ¬ nI 4 = 2 by decide)]
    obtain ⟨X3, M3, s3, e3, k3, r3, v3, p3, q3, hk3, hM3, hR3, hK3, ha3, hr3⟩ := fig_both 1 12 hR2
    have hse3 := hK3.1
    rw [p3, q3, bn_s, bn_s]
    unfold f_X8_readsItem_108
    rcases hr3 with ⟨c1, c2, c3, d3, c4, c5⟩ | ⟨c1, c2⟩
    · have hd3 := in_lit (lo := 1) (hi := 12) (by rw [← c5]; exact c3) c4 (by omega) (by omega)
      have nv3 : ¬ v3 = -1 := by rw [c5]; exact n1 c4
      have hD3 := DR_m (DR_m hD hM2) hM3
      obtain ⟨rp, y1, y2, y3⟩ := s_addOffer hD3.1 h8 d2 d3
      obtain ⟨t3, z1, z2⟩ := m_addOffer hD3.2.1 h8 d2 d3
      rw [c1, if_neg i10, if_neg nv3, if_neg (show ¬ nI 4 = 2 by decide), if_neg (show ¬ nI 4 = 3 by decide), b2, b5, c2, c5, y1, z1, bn_s, bn_s, lett_d]
      exact out_end (D := addON D d2 d3) (M := t2N M3 t3) (RD_d hR3) (kx_t (kx_t hk2 hk3) kx_d) ⟨y3, by rw [t2N_2]; exact z2, okA_addON hD3.2.2 h8 hd2 hd3⟩ ((addON_v (q := 0)).2.2 10 (by omega)) (by omega)
    · rw [c1, if_pos rfl, if_pos c2]
      exact out_no hR3 hK3 (kx_t hk2 hk3)
  · rw [b1, if_pos rfl, if_pos b2]
    exact out_no hR2 hK2 hk2
