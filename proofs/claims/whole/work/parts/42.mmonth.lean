/-! PURE: a month of the model. -/
theorem m_whole {A : AT} {t : Nat → Int32} {b l : Nat} (h : rM A t) (hA : okA b A) (hl : l < A.1 5) : f_X8_whole (nI l) t = some (nI (wholeN A l)) := by
  have e4 : t (26 + 5 * l + 1) = nI (A.2 4 l) := h.2.2.2.1 1 (by omega) l hl
  have e5 : t (26 + 5 * l + 2) = nI (A.2 5 l) := h.2.2.2.1 2 (by omega) l hl
  have er : t 1 = nI (A.1 1) := h.2.1 1 (by omega)
  obtain ⟨a0, a1, a2, a3, a4, a5, a6, aP, aL, aO⟩ := hA
  obtain ⟨l1, l2, l3, l4, l5, l6, l7, l8⟩ := aL l hl
  unfold wholeN gainN
  generalize A.2 4 l = pe at *
  generalize A.2 5 l = ti at *
  generalize A.1 1 = ra at *
  have h1 : pe * ti ≤ 99 * 12 := Nat.mul_le_mul l3 l5
  have h2 : pe * ti * ra ≤ 99 * 12 * 50 := Nat.mul_le_mul h1 a1
  simp (disch := omega) only [f_X8_whole, litI, pk_mul, nI_add, gi_n, clN, e4, e5, er, lett_d, divN]
theorem rM_same {A : AT} {t : Nat → Int32} {k : Nat} {v : Int32} (h : rM A t) (hv : t k = v) : rM A (upd t k v) := by
  have e : upd t k v = t := by
    funext q
    unfold upd
    split
    · rename_i hq; rw [hq, hv]
    · rfl
  rw [e]; exact h
theorem m_pays {A : AT} {t : Nat → Int32} {b l : Nat} (h : rM A t) (hA : okA b A) (hb : b < 1000000) (hl : l < A.1 5) (hs : A.2 6 l = 3) : ok (fun r => (r.1 = if A.1 0 < wholeN A l then 0 else 1) ∧ rM (payN l A) r.2) (f_X8_pays (nI l) t) := by
  have ew := m_whole h hA hl
  have hw := wholeN_le hA hl
  have e3 : t (26 + 5 * l) = nI (A.2 3 l) := h.2.2.2.1 0 (by omega) l hl
  have c0 : t 0 = nI (A.1 0) := h.2.1 0 (by omega)
  have c3 : t 6 = nI (A.1 3) := h.2.1 3 (by omega)
  obtain ⟨a0, a1, a2, a3, a4, a5, a6, aP, aL, aO⟩ := hA
  obtain ⟨l1, l2, l3, l4, l5, l6, l7, l8⟩ := aL l hl
  have e2 : t (8 + 3 * A.2 3 l + 2) = nI (A.2 2 (A.2 3 l)) := h.2.2.1 2 (by omega) (A.2 3 l) l1
  obtain ⟨k0, k1, k2⟩ := aP (A.2 3 l) l1
  unfold payN
  rw [if_pos hs]
  generalize wholeN A l = wo at *
  unfold f_X8_pays
  simp (disch := omega) only [ew, bn_s, litI, pk_mul, nI_add, gi_n, clN, c0, c3, leN, e3]
  by_cases hc : wo ≤ A.1 0
  · rw [if_pos hc, if_neg (by omega), if_neg (by omega)]
    refine ok_lett (fun ow ho => ?_)
    subst ho
    simp (disch := omega) only [gi_n, clN]
    refine ok_lett (fun t1 h1 => ?_)
    have r1 : rM (setS A 0 (A.1 0 - wo)) t1 := by rw [h1, subN hc]; exact rM_setS h (by omega)
    have e21 : t1 (8 + 3 * A.2 3 l + 2) = nI (A.2 2 (A.2 3 l)) := r1.2.2.1 2 (by omega) (A.2 3 l) (by rw [setS_k (by omega)]; exact l1)
    rw [e21, nI_add, m_least 9999 (A.2 2 (A.2 3 l) + wo) (by omega) (by omega)]
    simp only [bn_s]
    refine ok_lett (fun t2 h2 => ?_)
    have r2 : rM (setA (setS A 0 (A.1 0 - wo)) 2 (A.2 3 l) (min 9999 (A.2 2 (A.2 3 l) + wo))) t2 := by rw [h2]; exact rM_setP r1 (by omega) (by omega)
    refine ok_lett (fun t3 h3 => ?_)
    exact ok_s ⟨rfl, by rw [h3]; exact rM_setL (j := 3) r2 (by omega) (by omega)⟩
  · rw [if_neg hc, if_pos (by omega), if_pos (by omega)]
    refine ok_lett (fun t1 h1 => ?_)
    exact ok_s ⟨rfl, by rw [h1]; exact rM_setS (k := 3) h (by omega)⟩
theorem m_give56 {A : AT} {t : Nat → Int32} {b l : Nat} (h : rM A t) (hA : okA b A) (hl : l < A.1 5) (hs : A.2 6 l = 0) (hge : ¬ A.2 2 (A.2 3 l) < needN A l) : ok (fun t' => rM (giveN l A) t') (f_X8_gives_56 (nI (26 + 5 * l)) (nI (8 + 3 * A.2 3 l)) 1 t) := by
  have e4 : t (26 + 5 * l + 1) = nI (A.2 4 l) := h.2.2.2.1 1 (by omega) l hl
  obtain ⟨a0, a1, a2, a3, a4, a5, a6, aP, aL, aO⟩ := hA
  obtain ⟨l1, l2, l3, l4, l5, l6, l7, l8⟩ := aL l hl
  have e2 : t (8 + 3 * A.2 3 l + 2) = nI (A.2 2 (A.2 3 l)) := h.2.2.1 2 (by omega) (A.2 3 l) l1
  obtain ⟨k0, k1, k2⟩ := aP (A.2 3 l) l1
  have hpe : A.2 4 l ≤ A.2 2 (A.2 3 l) := by
    unfold needN at hge
    by_cases h5 : A.2 0 (A.2 3 l) = 5
    · rw [if_pos h5] at hge; omega
    · rw [if_neg h5] at hge; omega
  unfold giveN
  rw [if_pos hs, if_neg hge]
  unfold f_X8_gives_56
  rw [if_neg (show ¬ (1 : Int32) = 0 by decide)]
  simp (disch := omega) only [litI, nI_add, gi_n, clN, e2, e4, subN]
  refine ok_lett (fun t1 h1 => ?_)
  have r1 : rM (setA A 2 (A.2 3 l) (A.2 2 (A.2 3 l) - A.2 4 l)) t1 := by rw [h1]; exact rM_setP h (by omega) (by omega)
  have x41 : t1 (26 + 5 * l + 1) = nI (A.2 4 l) := by have := r1.2.2.2.1 1 (by omega) l hl; rw [this, setA_j (by omega)]
  have x01 : t1 0 = nI (A.1 0) := r1.2.1 0 (by omega)
  rw [x41, x01, nI_add, m_least 99999 (A.1 0 + A.2 4 l) (by omega) (by omega)]
  simp only [bn_s]
  refine ok_lett (fun t2 h2 => ?_)
  have r2 : rM (setS (setA A 2 (A.2 3 l) (A.2 2 (A.2 3 l) - A.2 4 l)) 0 (min 99999 (A.1 0 + A.2 4 l))) t2 := by rw [h2]; exact rM_setS (k := 0) r1 (by omega)
  have x72 : t2 (26 + 5 * l + 4) = nI (A.2 7 l) := by have := r2.2.2.2.1 4 (by omega) l (by rw [setS_k (by omega)]; exact hl); rw [this, setS_2, setA_j (by omega)]
  simp (disch := omega) only [x72, nI_add]
  refine ok_lett (fun t3 h3 => ?_)
  have r3 : rM (setA (setS (setA A 2 (A.2 3 l) (A.2 2 (A.2 3 l) - A.2 4 l)) 0 (min 99999 (A.1 0 + A.2 4 l))) 7 l (A.2 7 l + 1)) t3 := by rw [h3]; exact rM_setL (j := 4) r2 (by omega) (by omega)
  have hl3 : l < (setA (setS (setA A 2 (A.2 3 l) (A.2 2 (A.2 3 l) - A.2 4 l)) 0 (min 99999 (A.1 0 + A.2 4 l))) 7 l (A.2 7 l + 1)).1 5 := by rw [setA_1, setS_k (by omega)]; exact hl
  have x73 : t3 (26 + 5 * l + 4) = nI (A.2 7 l + 1) := by have := r3.2.2.2.1 4 (by omega) l hl3; rw [this, setA_same]
  have x53 : t3 (26 + 5 * l + 2) = nI (A.2 5 l) := by have := r3.2.2.2.1 2 (by omega) l hl3; rw [this, setA_j (by omega), setS_2, setA_j (by omega)]
  have x63 : t3 (26 + 5 * l + 3) = nI 0 := by have := r3.2.2.2.1 3 (by omega) l hl3; rw [this, setA_j (by omega), setS_2, setA_j (by omega), hs]
  have hlt := l8 hs
  simp (disch := omega) only [x73, x53, eqN]
  by_cases hd : A.2 7 l + 1 = A.2 5 l
  · rw [if_pos hd, if_pos hd]
    refine ok_lett (fun t4 h4 => ?_)
    exact ok_s (by rw [h4]; exact rM_setL (j := 3) r3 (by omega) (by omega))
  · rw [if_neg hd, if_neg hd]
    refine ok_lett (fun t4 h4 => ?_)
    exact ok_s (by rw [h4]; exact rM_same r3 x63)
theorem m_gives {A : AT} {t : Nat → Int32} {b l : Nat} (h : rM A t) (hA : okA b A) (hl : l < A.1 5) (hs : A.2 6 l = 0) : ok (fun t' => rM (giveN l A) t') (f_X8_gives (nI l) t) := by
  have e3 : t (26 + 5 * l) = nI (A.2 3 l) := h.2.2.2.1 0 (by omega) l hl
  have e4 : t (26 + 5 * l + 1) = nI (A.2 4 l) := h.2.2.2.1 1 (by omega) l hl
  have hA' := hA
  obtain ⟨a0, a1, a2, a3, a4, a5, a6, aP, aL, aO⟩ := hA
  obtain ⟨l1, l2, l3, l4, l5, l6, l7, l8⟩ := aL l hl
  have e0 : t (8 + 3 * A.2 3 l) = nI (A.2 0 (A.2 3 l)) := h.2.2.1 0 (by omega) (A.2 3 l) l1
  have e2 : t (8 + 3 * A.2 3 l + 2) = nI (A.2 2 (A.2 3 l)) := h.2.2.1 2 (by omega) (A.2 3 l) l1
  obtain ⟨k0, k1, k2⟩ := aP (A.2 3 l) l1
  have stop : A.2 2 (A.2 3 l) < needN A l → ok (fun t' => rM (giveN l A) t') (f_X8_gives_55 (nI (26 + 5 * l)) (nI (8 + 3 * A.2 3 l)) t) := by
    intro hlt
    unfold f_X8_gives_55 f_X8_gives_56
    rw [if_pos (show (0 : Int32) = 0 from rfl)]
    simp (disch := omega) only [litI, nI_add, gi_n, clN]
    refine ok_lett (fun t1 h1 => ok_s ?_)
    unfold giveN
    rw [if_pos hs, if_pos hlt, h1]
    exact rM_setL (j := 3) h (by omega) (by omega)
  have go : ¬ A.2 2 (A.2 3 l) < needN A l → ok (fun t' => rM (giveN l A) t') (f_X8_gives_51 (nI (26 + 5 * l)) (nI (8 + 3 * A.2 3 l)) t) := by
    intro hlt
    unfold f_X8_gives_51
    exact m_give56 h hA' hl hs hlt
  unfold f_X8_gives
  simp (disch := omega) only [litI, pk_mul, nI_add, lett_d, gi_n, clN, e3, e0, e2, e4, ltN, eqN]
  by_cases h1 : A.2 2 (A.2 3 l) < A.2 4 l
  · rw [if_pos h1]
    exact stop (by unfold needN; split <;> omega)
  · rw [if_neg h1]
    by_cases h5 : A.2 0 (A.2 3 l) = 5
    · rw [if_pos h5]
      by_cases h2 : A.2 2 (A.2 3 l) < 2 * A.2 4 l
      · rw [if_pos h2]
        exact stop (by unfold needN; rw [if_pos h5]; exact h2)
      · rw [if_neg h2]
        exact go (by unfold needN; rw [if_pos h5]; exact h2)
    · rw [if_neg h5]
      exact go (by unfold needN; rw [if_neg h5]; exact h1)
theorem m_person {A : AT} {t : Nat → Int32} {b p : Nat} {x : Int32} {dry : Nat → Bool} (h : rM A t) (hA : okA b A) (hb : b < 1000000) (hd : dryOf x dry) (hp : p < A.1 4) (K126 : (Nat → Int32) → Option (Int32 × (Nat → Int32))) : ∃ t', rM (stP dry p A) t' ∧ ∀ k : Int32 → (Nat → Int32) → Option (Int32 × (Nat → Int32)), f_X8_month_2 x (nI p) t k K126 = k (nI (p + 1)) t' := by
  have hp6 : p < 6 := Nat.lt_of_lt_of_le hp hA.2.2.2.2.1
  have c4 : t 3 = nI (A.1 4) := h.2.1 4 (by omega)
  have c2 : t 2 = nI (A.1 2) := h.2.1 2 (by omega)
  have a4 := hA.2.2.2.2.1
  have a2 := hA.2.2.1
  obtain ⟨k0, k1, k2⟩ := hA.2.2.2.2.2.2.2.1 p hp
  have e0 : t (8 + 3 * p) = nI (A.2 0 p) := h.2.2.1 0 (by omega) p hp
  have e1 : t (8 + 3 * p + 1) = nI (A.2 1 p) := h.2.2.1 1 (by omega) p hp
  have e2 : t (8 + 3 * p + 2) = nI (A.2 2 p) := h.2.2.1 2 (by omega) p hp
  have hc : comesN (A.2 0 p) (A.2 1 p) (A.1 2) ≤ 161 := by unfold comesN; split <;> split <;> split <;> omega
  have ec := m_comes (A.2 0 p) (A.2 1 p) (A.1 2) k0 k1 (by omega)
  -- the purse before he spends
  obtain ⟨got, hgot, hgl, hstart⟩ : ∃ got, purseN (dry p) (A.2 0 p) (A.2 1 p) (A.1 2) (A.2 2 p) = min 9999 (A.2 2 p + got) ∧ got ≤ 161 ∧ ∀ k : Int32 → (Nat → Int32) → Option (Int32 × (Nat → Int32)), f_X8_month_2 x (nI p) t k K126 = f_X8_month_43 x (nI p) (nI (8 + 3 * p)) (nI got) t k := by
    by_cases hdr : dry p = true
    · refine ⟨0, by unfold purseN; rw [hdr]; rfl, by omega, fun k => ?_⟩
      unfold f_X8_month_2
      simp (disch := omega) only [litI, pk_mul, nI_add, gi_n, clN, c4, leN, lett_d]
      rw [if_neg (by omega)]
      have hb1 := (hd p hp6).mpr hdr
      simp only [litI] at hb1
      rw [if_pos hb1]
    · refine ⟨comesN (A.2 0 p) (A.2 1 p) (A.1 2), ?_, hc, fun k => ?_⟩
      · have hdf : dry p = false := by cases hq : dry p <;> simp_all
        unfold purseN; rw [hdf]; rfl
      · unfold f_X8_month_2
        simp (disch := omega) only [litI, pk_mul, nI_add, gi_n, clN, c4, leN, lett_d, e0, e1, c2, ec, bn_s]
        rw [if_neg (by omega)]
        have hb1 : ¬ (x >>> (nI p &&& 31)) &&& 1 = 1 := fun e => hdr ((hd p hp6).mp e)
        simp only [litI] at hb1
        rw [if_neg hb1]
  obtain ⟨pn, hpn⟩ : ∃ pn, pn = purseN (dry p) (A.2 0 p) (A.2 1 p) (A.1 2) (A.2 2 p) := ⟨_, rfl⟩
  have hpn9 : pn ≤ 9999 := by rw [hpn]; exact purseN_le
  have r1 : rM (setA A 2 p pn) (upd t (8 + 3 * p + 2) (nI pn)) := rM_setP h (by omega) hp6
  obtain ⟨t1, ht1⟩ : ∃ t1, t1 = upd t (8 + 3 * p + 2) (nI pn) := ⟨_, rfl⟩
  rw [← ht1] at r1
  have x01 : t1 (8 + 3 * p) = nI (A.2 0 p) := by have := r1.2.2.1 0 (by omega) p hp; rw [setA_j (by omega)] at this; exact this
  have x21 : t1 (8 + 3 * p + 2) = nI pn := by have := r1.2.2.1 2 (by omega) p hp; rw [setA_same] at this; exact this
  have es : setA (setA A 2 p pn) 2 p (spendN (A.2 0 p) pn) = setA A 2 p (spendN (A.2 0 p) pn) := by
    unfold setA
    congr 1
    funext i
    by_cases hi : i = 2
    · subst hi
      simp only [if_true]
      funext q
      unfold updN
      split <;> rfl
    · simp only [if_neg hi]
  have r2 : rM (stP dry p A) (upd t1 (8 + 3 * p + 2) (nI (spendN (A.2 0 p) pn))) := by
    have := rM_setP (j := 2) (p := p) (x := spendN (A.2 0 p) pn) r1 (by omega) hp6
    rw [es] at this
    unfold stP
    rw [← hpn]
    exact this
  refine ⟨_, r2, fun k => ?_⟩
  rw [hstart]
  unfold f_X8_month_43
  simp (disch := omega) only [litI, nI_add, gi_n, clN, e2]
  rw [m_least 9999 (A.2 2 p + got) (by omega) (by omega), ← hgot, ← hpn]
  simp only [bn_s, lett_d]
  rw [← ht1]
  have stay : ∀ k : Int32 → (Nat → Int32) → Option (Int32 × (Nat → Int32)), f_X8_month_92 x (nI p) (nI (8 + 3 * p)) t1 k = k (nI (p + 1)) (upd t1 (8 + 3 * p + 2) (nI pn)) := by
    intro k
    unfold f_X8_month_92 f_X8_month_93 f_X8_month_119
    rw [if_pos (show (0 : Int32) = 0 from rfl)]
    simp (disch := omega) only [litI, nI_add, gi_n, clN, x21, lett_d]
  have half : ∀ k : Int32 → (Nat → Int32) → Option (Int32 × (Nat → Int32)), f_X8_month_78 x (nI p) (nI (8 + 3 * p)) t1 k = k (nI (p + 1)) (upd t1 (8 + 3 * p + 2) (nI (if 50 < pn then pn / 2 else pn))) := by
    intro k
    unfold f_X8_month_78
    simp (disch := omega) only [litI, nI_add, gi_n, clN, x21, leN]
    by_cases h5 : pn ≤ 50
    · rw [if_pos h5, if_neg (by omega), stay]
    · rw [if_neg h5, if_pos (by omega)]
      unfold f_X8_month_93 f_X8_month_119
      rw [if_neg (show ¬ nI 1 = 0 by decide)]
      simp (disch := omega) only [litI, nI_add, gi_n, clN, x21, lett_d, divN]
  simp (disch := omega) only [x01, eqN, stay, half]
  unfold spendN
  by_cases k2' : A.2 0 p = 2
  · simp only [k2', if_true, true_or, true_and]
  · by_cases k4 : A.2 0 p = 4
    · simp only [k4, if_true, or_true, true_and]
      simp
    · simp only [k2', k4, if_false, or_self, false_and]
