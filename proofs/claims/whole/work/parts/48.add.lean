/-! PURE: people, loans and offers that come. -/
theorem rT_grow {A : AT} {T : Tw} (h : rT A T) {g n lo hi : Nat} (hg : g = 4 ∧ lo = 0 ∧ hi = 3 ∨ g = 5 ∧ lo = 3 ∧ hi = 8 ∨ g = 6 ∧ lo = 8 ∧ hi = 10) (hn : n = A.1 g) (hv : ∀ j, lo ≤ j → j < hi → T.2 j n = nI (A.2 j n)) : rT (setS A g (n + 1)) (upd T.1 g (nI (n + 1)), T.2) := by
  obtain ⟨h1, h2, h3, h4⟩ := h
  refine ⟨fun i hi => ?_, fun j hj p hp => ?_, fun j hj hj2 p hp => ?_, fun j hj hj2 p hp => ?_⟩
  · show upd T.1 g (nI (n + 1)) i = nI (updN A.1 g (n + 1) i)
    unfold upd updN
    by_cases e : i = g
    · simp [e]
    · simp [e, h1 i hi]
  · rcases hg with ⟨e, e1, e2⟩ | ⟨e, e1, e2⟩ | ⟨e, e1, e2⟩
    · subst e e1 e2
      rw [setS_same] at hp
      by_cases e : p = n
      · subst e; exact hv j (by omega) (by omega)
      · exact h2 j hj p (by omega)
    · subst e; rw [setS_k (by omega)] at hp; exact h2 j hj p hp
    · subst e; rw [setS_k (by omega)] at hp; exact h2 j hj p hp
  · rcases hg with ⟨e, e1, e2⟩ | ⟨e, e1, e2⟩ | ⟨e, e1, e2⟩
    · subst e; rw [setS_k (by omega)] at hp; exact h3 j hj hj2 p hp
    · subst e e1 e2
      rw [setS_same] at hp
      by_cases e : p = n
      · subst e; exact hv j (by omega) (by omega)
      · exact h3 j hj hj2 p (by omega)
    · subst e; rw [setS_k (by omega)] at hp; exact h3 j hj hj2 p hp
  · rcases hg with ⟨e, e1, e2⟩ | ⟨e, e1, e2⟩ | ⟨e, e1, e2⟩
    · subst e; rw [setS_k (by omega)] at hp; exact h4 j hj hj2 p hp
    · subst e; rw [setS_k (by omega)] at hp; exact h4 j hj hj2 p hp
    · subst e e1 e2
      rw [setS_same] at hp
      by_cases e : p = n
      · subst e; exact hv j (by omega) (by omega)
      · exact h4 j hj hj2 p (by omega)
theorem rM_grow4 {A : AT} {t : Nat → Int32} (h : rM A t) {n : Nat} (hn : n = A.1 4) (h6 : n < 6) (hv : ∀ j, j < 3 → t (8 + 3 * n + j) = nI (A.2 j n)) : rM (setS A 4 (n + 1)) (upd t 3 (nI (n + 1))) := by
  obtain ⟨h0, h1, h2, h3, h4, h5⟩ := h
  have e5 : (setS A 4 (n + 1)).1 5 = A.1 5 := setS_k (by omega)
  have e6 : (setS A 4 (n + 1)).1 6 = A.1 6 := setS_k (by omega)
  refine ⟨⟨by rw [setS_same]; omega, by rw [e5]; exact h0.2.1, by rw [e6]; exact h0.2.2⟩, fun i hi => ?_, fun j hj p hp => ?_, fun j hj p hp => ?_, fun j hj p hp => ?_, fun k hk => ?_⟩
  · show upd t (ixS 4) (nI (n + 1)) (ixS i) = nI (updN A.1 4 (n + 1) i)
    unfold upd updN
    by_cases e : i = 4
    · simp [e]
    · rw [if_neg (ixS_ne hi (by omega) e), if_neg e]; exact h1 i hi
  · rw [setS_same] at hp
    rw [up_n (by omega)]
    by_cases e : p = n
    · subst e; exact hv j hj
    · exact h2 j hj p (by omega)
  · rw [e5] at hp; rw [up_n (by omega)]; exact h3 j hj p hp
  · rw [e6] at hp; rw [up_n (by omega)]; exact h4 j hj p hp
  · rw [up_n (by omega)]; exact h5 k hk
theorem rM_grow5 {A : AT} {t : Nat → Int32} (h : rM A t) {n : Nat} (hn : n = A.1 5) (h8 : n < 8) (hv : ∀ j, j < 5 → t (26 + 5 * n + j) = nI (A.2 (3 + j) n)) : rM (setS A 5 (n + 1)) (upd t 4 (nI (n + 1))) := by
  obtain ⟨h0, h1, h2, h3, h4, h5⟩ := h
  have e4 : (setS A 5 (n + 1)).1 4 = A.1 4 := setS_k (by omega)
  have e6 : (setS A 5 (n + 1)).1 6 = A.1 6 := setS_k (by omega)
  refine ⟨⟨by rw [e4]; exact h0.1, by rw [setS_same]; omega, by rw [e6]; exact h0.2.2⟩, fun i hi => ?_, fun j hj p hp => ?_, fun j hj p hp => ?_, fun j hj p hp => ?_, fun k hk => ?_⟩
  · show upd t (ixS 5) (nI (n + 1)) (ixS i) = nI (updN A.1 5 (n + 1) i)
    unfold upd updN
    by_cases e : i = 5
    · simp [e]
    · rw [if_neg (ixS_ne hi (by omega) e), if_neg e]; exact h1 i hi
  · rw [e4] at hp; rw [up_n (by omega)]; exact h2 j hj p hp
  · rw [setS_same] at hp
    rw [up_n (by omega)]
    by_cases e : p = n
    · subst e; exact hv j hj
    · exact h3 j hj p (by omega)
  · rw [e6] at hp; rw [up_n (by omega)]; exact h4 j hj p hp
  · rw [up_n (by omega)]; exact h5 k hk
theorem rM_grow6 {A : AT} {t : Nat → Int32} (h : rM A t) {n : Nat} (hn : n = A.1 6) (h8 : n < 8) (hv : ∀ j, j < 2 → t (66 + 2 * n + j) = nI (A.2 (8 + j) n)) : rM (setS A 6 (n + 1)) (upd t 5 (nI (n + 1))) := by
  obtain ⟨h0, h1, h2, h3, h4, h5⟩ := h
  have e4 : (setS A 6 (n + 1)).1 4 = A.1 4 := setS_k (by omega)
  have e5 : (setS A 6 (n + 1)).1 5 = A.1 5 := setS_k (by omega)
  refine ⟨⟨by rw [e4]; exact h0.1, by rw [e5]; exact h0.2.1, by rw [setS_same]; omega⟩, fun i hi => ?_, fun j hj p hp => ?_, fun j hj p hp => ?_, fun j hj p hp => ?_, fun k hk => ?_⟩
  · show upd t (ixS 6) (nI (n + 1)) (ixS i) = nI (updN A.1 6 (n + 1) i)
    unfold upd updN
    by_cases e : i = 6
    · simp [e]
    · rw [if_neg (ixS_ne hi (by omega) e), if_neg e]; exact h1 i hi
  · rw [e4] at hp; rw [up_n (by omega)]; exact h2 j hj p hp
  · rw [e5] at hp; rw [up_n (by omega)]; exact h3 j hj p hp
  · rw [setS_same] at hp
    rw [up_n (by omega)]
    by_cases e : p = n
    · subst e; exact hv j hj
    · exact h4 j hj p (by omega)
  · rw [up_n (by omega)]; exact h5 k hk
/-- an offer's field, in the model -/
theorem rM_setO {A : AT} {t : Nat → Int32} (h : rM A t) {j o x : Nat} (hj : j < 2) (ho : o < 8) : rM (setA A (8 + j) o x) (upd t (66 + 2 * o + j) (nI x)) := by
  obtain ⟨h0, h1, h2, h3, h4, h5⟩ := h
  refine ⟨h0, fun i hi => ?_, fun i hi q hq => ?_, fun i hi q hq => ?_, fun i hi q hq => ?_, fun i hi => ?_⟩
  · have := ixS_le hi
    rw [up_n (by omega)]; exact h1 i hi
  · have hq4 : q < A.1 4 := hq
    rw [up_n (by omega), setA_j (by omega)]; exact h2 i hi q hq
  · have hq5 : q < A.1 5 := hq
    rw [up_n (by omega), setA_j (by omega)]; exact h3 i hi q hq
  · unfold upd
    by_cases e : i = j
    · subst e
      by_cases e2 : q = o
      · subst e2; rw [setA_same, if_pos rfl]
      · rw [setA_k e2, if_neg (by omega)]; exact h4 i hi q hq
    · rw [setA_j (by omega), if_neg (by omega)]; exact h4 i hi q hq
  · rw [up_n (by omega), setA_j (by omega)]; exact h5 i hi
def addPN (A : AT) (k m p : Nat) : AT := setS (setA (setA (setA A 0 (A.1 4) k) 1 (A.1 4) m) 2 (A.1 4) p) 4 (A.1 4 + 1)
def addLN (A : AT) (w p t : Nat) : AT := setS (setA (setA (setA (setA (setA A 3 (A.1 5) w) 4 (A.1 5) p) 5 (A.1 5) t) 6 (A.1 5) 0) 7 (A.1 5) 0) 5 (A.1 5 + 1)
def addON (A : AT) (p t : Nat) : AT := setS (setA (setA A 8 (A.1 6) p) 9 (A.1 6) t) 6 (A.1 6 + 1)
theorem s_addPerson {A : AT} {T : Tw} (h : rT A T) (h6 : A.1 4 < 6) (k m p : Nat) : ok (fun r => r.1 = nI (A.1 4) ∧ rT (addPN A k m p) r.2) (f_X5_addPerson (nI k) (nI m) (nI p) T) := by
  have c4 : T.1 4 = nI (A.1 4) := h.1 4 (by omega)
  unfold f_X5_addPerson
  simp (disch := omega) only [litI, c4, ltN]
  rw [if_pos h6]
  simp (disch := omega) only [gi_n, clN]
  refine ok_lett (fun T1 h1 => ?_)
  have r1 : rT (setA A 0 (A.1 4) k) T1 := by rw [h1]; exact rT_setA h
  have d1 : T1.1 4 = nI (A.1 4) := by rw [h1]; exact c4
  simp (disch := omega) only [d1, gi_n, clN]
  refine ok_lett (fun T2 h2 => ?_)
  have r2 : rT (setA (setA A 0 (A.1 4) k) 1 (A.1 4) m) T2 := by rw [h2]; exact rT_setA r1
  have d2 : T2.1 4 = nI (A.1 4) := by rw [h2]; exact d1
  simp (disch := omega) only [d2, gi_n, clN]
  refine ok_lett (fun T3 h3 => ?_)
  have r3 : rT (setA (setA (setA A 0 (A.1 4) k) 1 (A.1 4) m) 2 (A.1 4) p) T3 := by rw [h3]; exact rT_setA r2
  have d3 : T3.1 4 = nI (A.1 4) := by rw [h3]; exact d2
  simp (disch := omega) only [d3, nI_add]
  refine ok_lett (fun T4 h4 => ?_)
  have d4 : T4.1 4 = nI (A.1 4 + 1) := by rw [h4]; simp only [up_s]
  refine ok_s ⟨?_, ?_⟩
  · show T4.1 4 - nI 1 = _
    rw [d4, subN (by omega)]; rfl
  · rw [h4]
    refine rT_grow (g := 4) (lo := 0) (hi := 3) r3 (by omega) rfl (fun j _ hj => ?_)
    rw [h3, h2, h1]
    have hj' : j = 0 ∨ j = 1 ∨ j = 2 := by omega
    rcases hj' with e | e | e
    · subst e; simp only [vu_n (show (0 : Nat) ≠ 2 by omega), vu_n (show (0 : Nat) ≠ 1 by omega), vu_s, up_s, setA_j (show (0 : Nat) ≠ 2 by omega), setA_j (show (0 : Nat) ≠ 1 by omega), setA_same]
    · subst e; simp only [vu_n (show (1 : Nat) ≠ 2 by omega), vu_s, up_s, setA_j (show (1 : Nat) ≠ 2 by omega), setA_same]
    · subst e; simp only [vu_s, up_s, setA_same]
theorem s_addLoan {A : AT} {T : Tw} (h : rT A T) (h8 : A.1 5 < 8) (k m p : Nat) : ok (fun r => r.1 = nI (A.1 5) ∧ rT (addLN A k m p) r.2) (f_X5_addLoan (nI k) (nI m) (nI p) T) := by
  have c4 : T.1 5 = nI (A.1 5) := h.1 5 (by omega)
  unfold f_X5_addLoan
  simp (disch := omega) only [litI, c4, ltN]
  rw [if_pos h8]
  simp (disch := omega) only [gi_n, clN]
  refine ok_lett (fun T1 h1 => ?_)
  have r1 : rT (setA A 3 (A.1 5) k) T1 := by rw [h1]; exact rT_setA h
  have d1 : T1.1 5 = nI (A.1 5) := by rw [h1]; exact c4
  simp (disch := omega) only [d1, gi_n, clN]
  refine ok_lett (fun T2 h2 => ?_)
  have r2 : rT (setA (setA A 3 (A.1 5) k) 4 (A.1 5) m) T2 := by rw [h2]; exact rT_setA r1
  have d2 : T2.1 5 = nI (A.1 5) := by rw [h2]; exact d1
  simp (disch := omega) only [d2, gi_n, clN]
  refine ok_lett (fun T3 h3 => ?_)
  have r3 : rT (setA (setA (setA A 3 (A.1 5) k) 4 (A.1 5) m) 5 (A.1 5) p) T3 := by rw [h3]; exact rT_setA r2
  have d3 : T3.1 5 = nI (A.1 5) := by rw [h3]; exact d2
  simp (disch := omega) only [d3, gi_n, clN]
  refine ok_lett (fun T4 h4 => ?_)
  have r4 : rT (setA (setA (setA (setA A 3 (A.1 5) k) 4 (A.1 5) m) 5 (A.1 5) p) 6 (A.1 5) 0) T4 := by rw [h4]; exact rT_setA r3
  have d4 : T4.1 5 = nI (A.1 5) := by rw [h4]; exact d3
  simp (disch := omega) only [d4, gi_n, clN]
  refine ok_lett (fun T5 h5 => ?_)
  have r5 : rT (setA (setA (setA (setA (setA A 3 (A.1 5) k) 4 (A.1 5) m) 5 (A.1 5) p) 6 (A.1 5) 0) 7 (A.1 5) 0) T5 := by rw [h5]; exact rT_setA r4
  have d5 : T5.1 5 = nI (A.1 5) := by rw [h5]; exact d4
  simp (disch := omega) only [d5, nI_add]
  refine ok_lett (fun T6 h6 => ?_)
  have d6 : T6.1 5 = nI (A.1 5 + 1) := by rw [h6]; simp only [up_s]
  refine ok_s ⟨?_, ?_⟩
  · show T6.1 5 - nI 1 = _
    rw [d6, subN (by omega)]; rfl
  · rw [h6]
    refine rT_grow (g := 5) (lo := 3) (hi := 8) r5 (by omega) rfl (fun j hj0 hj => ?_)
    rw [h5, h4, h3, h2, h1]
    have hj' : j = 3 ∨ j = 4 ∨ j = 5 ∨ j = 6 ∨ j = 7 := by omega
    rcases hj' with e | e | e | e | e
    · subst e; simp only [vu_n (show (3 : Nat) ≠ 7 by omega), vu_n (show (3 : Nat) ≠ 6 by omega), vu_n (show (3 : Nat) ≠ 5 by omega), vu_n (show (3 : Nat) ≠ 4 by omega), vu_s, up_s, setA_j (show (3 : Nat) ≠ 7 by omega), setA_j (show (3 : Nat) ≠ 6 by omega), setA_j (show (3 : Nat) ≠ 5 by omega), setA_j (show (3 : Nat) ≠ 4 by omega), setA_same]
    · subst e; simp only [vu_n (show (4 : Nat) ≠ 7 by omega), vu_n (show (4 : Nat) ≠ 6 by omega), vu_n (show (4 : Nat) ≠ 5 by omega), vu_s, up_s, setA_j (show (4 : Nat) ≠ 7 by omega), setA_j (show (4 : Nat) ≠ 6 by omega), setA_j (show (4 : Nat) ≠ 5 by omega), setA_same]
    · subst e; simp only [vu_n (show (5 : Nat) ≠ 7 by omega), vu_n (show (5 : Nat) ≠ 6 by omega), vu_s, up_s, setA_j (show (5 : Nat) ≠ 7 by omega), setA_j (show (5 : Nat) ≠ 6 by omega), setA_same]
    · subst e; simp only [vu_n (show (6 : Nat) ≠ 7 by omega), vu_s, up_s, setA_j (show (6 : Nat) ≠ 7 by omega), setA_same]
    · subst e; simp only [vu_s, up_s, setA_same]
theorem s_addOffer {A : AT} {T : Tw} (h : rT A T) (h8 : A.1 6 < 8) (k m : Nat) : ok (fun r => r.1 = nI (A.1 6) ∧ rT (addON A k m) r.2) (f_X5_addOffer (nI k) (nI m) T) := by
  have c4 : T.1 6 = nI (A.1 6) := h.1 6 (by omega)
  unfold f_X5_addOffer
  simp (disch := omega) only [litI, c4, ltN]
  rw [if_pos h8]
  simp (disch := omega) only [gi_n, clN]
  refine ok_lett (fun T1 h1 => ?_)
  have r1 : rT (setA A 8 (A.1 6) k) T1 := by rw [h1]; exact rT_setA h
  have d1 : T1.1 6 = nI (A.1 6) := by rw [h1]; exact c4
  simp (disch := omega) only [d1, gi_n, clN]
  refine ok_lett (fun T2 h2 => ?_)
  have r2 : rT (setA (setA A 8 (A.1 6) k) 9 (A.1 6) m) T2 := by rw [h2]; exact rT_setA r1
  have d2 : T2.1 6 = nI (A.1 6) := by rw [h2]; exact d1
  simp (disch := omega) only [d2, nI_add]
  refine ok_lett (fun T6 h6 => ?_)
  have d6 : T6.1 6 = nI (A.1 6 + 1) := by rw [h6]; simp only [up_s]
  refine ok_s ⟨?_, ?_⟩
  · show T6.1 6 - nI 1 = _
    rw [d6, subN (by omega)]; rfl
  · rw [h6]
    refine rT_grow (g := 6) (lo := 8) (hi := 10) r2 (by omega) rfl (fun j hj0 hj => ?_)
    rw [h2, h1]
    have hj' : j = 8 ∨ j = 9 := by omega
    rcases hj' with e | e
    · subst e; simp only [vu_n (show (8 : Nat) ≠ 9 by omega), vu_s, up_s, setA_j (show (8 : Nat) ≠ 9 by omega), setA_same]
    · subst e; simp only [vu_s, up_s, setA_same]
theorem m_addPerson {A : AT} {t : Nat → Int32} (h : rM A t) (h6 : A.1 4 < 6) (k m p : Nat) : ok (fun t' => rM (addPN A k m p) t') (f_X8_addPerson (nI k) (nI m) (nI p) t) := by
  have c4 : t 3 = nI (A.1 4) := h.2.1 4 (by omega)
  unfold f_X8_addPerson
  simp (disch := omega) only [litI, gi_n, clN, c4, pk_mul, nI_add, lett_d]
  have r1 := rM_setP h (j := 0) (p := A.1 4) (x := k) (by omega) h6
  have r2 := rM_setP r1 (j := 1) (p := A.1 4) (x := m) (by omega) h6
  have r3 := rM_setP r2 (j := 2) (p := A.1 4) (x := p) (by omega) h6
  have e3 : upd (upd (upd t (8 + 3 * A.1 4) (nI k)) (8 + 3 * A.1 4 + 1) (nI m)) (8 + 3 * A.1 4 + 2) (nI p) 3 = nI (A.1 4) := by
    rw [up_n (by omega), up_n (by omega), up_n (by omega), c4]
  rw [e3, nI_add]
  refine ok_s (rM_grow4 r3 rfl h6 (fun j hj => ?_))
  have hj' : j = 0 ∨ j = 1 ∨ j = 2 := by omega
  rcases hj' with e | e | e
  · subst e; rw [up_n (by omega), up_n (by omega), up_s, setA_j (by omega), setA_j (by omega), setA_same]
  · subst e; rw [up_n (by omega), up_s, setA_j (by omega), setA_same]
  · subst e; rw [up_s, setA_same]
theorem m_addLoan {A : AT} {t : Nat → Int32} (h : rM A t) (h8 : A.1 5 < 8) (k m p : Nat) : ok (fun t' => rM (addLN A k m p) t') (f_X8_addLoan (nI k) (nI m) (nI p) t) := by
  have c4 : t 4 = nI (A.1 5) := h.2.1 5 (by omega)
  unfold f_X8_addLoan
  simp (disch := omega) only [litI, gi_n, clN, c4, pk_mul, nI_add, lett_d]
  have r1 := rM_setL h (j := 0) (l := A.1 5) (x := k) (by omega) h8
  have r2 := rM_setL r1 (j := 1) (l := A.1 5) (x := m) (by omega) h8
  have r3 := rM_setL r2 (j := 2) (l := A.1 5) (x := p) (by omega) h8
  have r4 := rM_setL r3 (j := 3) (l := A.1 5) (x := 0) (by omega) h8
  have r5 := rM_setL r4 (j := 4) (l := A.1 5) (x := 0) (by omega) h8
  have e3 : upd (upd (upd (upd (upd t (26 + 5 * A.1 5) (nI k)) (26 + 5 * A.1 5 + 1) (nI m)) (26 + 5 * A.1 5 + 2) (nI p)) (26 + 5 * A.1 5 + 3) (nI 0)) (26 + 5 * A.1 5 + 4) (nI 0) 4 = nI (A.1 5) := by
    rw [up_n (by omega), up_n (by omega), up_n (by omega), up_n (by omega), up_n (by omega), c4]
  rw [e3, nI_add]
  refine ok_s (rM_grow5 r5 rfl h8 (fun j hj => ?_))
  have hj' : j = 0 ∨ j = 1 ∨ j = 2 ∨ j = 3 ∨ j = 4 := by omega
  rcases hj' with e | e | e | e | e
  · subst e; rw [up_n (by omega), up_n (by omega), up_n (by omega), up_n (by omega), up_s, setA_j (by omega), setA_j (by omega), setA_j (by omega), setA_j (by omega), setA_same]
  · subst e; rw [up_n (by omega), up_n (by omega), up_n (by omega), up_s, setA_j (by omega), setA_j (by omega), setA_j (by omega), setA_same]
  · subst e; rw [up_n (by omega), up_n (by omega), up_s, setA_j (by omega), setA_j (by omega), setA_same]
  · subst e; rw [up_n (by omega), up_s, setA_j (by omega), setA_same]
  · subst e; rw [up_s, setA_same]
theorem m_addOffer {A : AT} {t : Nat → Int32} (h : rM A t) (h8 : A.1 6 < 8) (k m : Nat) : ok (fun t' => rM (addON A k m) t') (f_X8_addOffer (nI k) (nI m) t) := by
  have c4 : t 5 = nI (A.1 6) := h.2.1 6 (by omega)
  unfold f_X8_addOffer
  simp (disch := omega) only [litI, gi_n, clN, c4, pk_mul, nI_add, lett_d]
  have r1 := rM_setO h (j := 0) (o := A.1 6) (x := k) (by omega) h8
  have r2 := rM_setO r1 (j := 1) (o := A.1 6) (x := m) (by omega) h8
  have e3 : upd (upd t (66 + 2 * A.1 6) (nI k)) (66 + 2 * A.1 6 + 1) (nI m) 5 = nI (A.1 6) := by
    rw [up_n (by omega), up_n (by omega), c4]
  rw [e3, nI_add]
  refine ok_s (rM_grow6 r2 rfl h8 (fun j hj => ?_))
  have hj' : j = 0 ∨ j = 1 := by omega
  rcases hj' with e | e
  · subst e; rw [up_n (by omega), up_s, setA_j (by omega), setA_same]
  · subst e; rw [up_s, setA_same]
theorem addPN_v {A : AT} {k m p q : Nat} : (addPN A k m p).2 0 q = (if q = A.1 4 then k else A.2 0 q) ∧ (addPN A k m p).2 1 q = (if q = A.1 4 then m else A.2 1 q) ∧ (addPN A k m p).2 2 q = (if q = A.1 4 then p else A.2 2 q) ∧ ∀ j, 3 ≤ j → (addPN A k m p).2 j = A.2 j := by
  refine ⟨?_, ?_, ?_, fun j hj => ?_⟩
  · show (setA (setA (setA A 0 (A.1 4) k) 1 (A.1 4) m) 2 (A.1 4) p).2 0 q = _
    rw [setA_j (by omega), setA_j (by omega)]
    by_cases e : q = A.1 4
    · rw [e, if_pos rfl, setA_same]
    · rw [if_neg e, setA_k e]
  · show (setA (setA (setA A 0 (A.1 4) k) 1 (A.1 4) m) 2 (A.1 4) p).2 1 q = _
    rw [setA_j (by omega)]
    by_cases e : q = A.1 4
    · rw [e, if_pos rfl, setA_same]
    · rw [if_neg e, setA_k e, setA_j (by omega)]
  · show (setA (setA (setA A 0 (A.1 4) k) 1 (A.1 4) m) 2 (A.1 4) p).2 2 q = _
    by_cases e : q = A.1 4
    · rw [e, if_pos rfl, setA_same]
    · rw [if_neg e, setA_k e, setA_j (by omega), setA_j (by omega)]
  · show (setA (setA (setA A 0 (A.1 4) k) 1 (A.1 4) m) 2 (A.1 4) p).2 j = _
    rw [setA_j (by omega), setA_j (by omega), setA_j (by omega)]
theorem okA_addPN {b : Nat} {A : AT} {k m p : Nat} (h : okA b A) (h6 : A.1 4 < 6) (hk : k ≤ 5) (hm : m ≤ 99) (hp : p ≤ 9999) : okA b (addPN A k m p) := by
  obtain ⟨a0, a1, a2, a3, a4, a5, a6, a7, a8, a9⟩ := h
  have e4 : (addPN A k m p).1 4 = A.1 4 + 1 := setS_same
  refine ⟨a0, a1, a2, a3, by rw [e4]; omega, a5, a6, fun q hq => ?_, fun l hl => ?_, fun o ho => ?_⟩
  · obtain ⟨v0, v1, v2, v3⟩ := addPN_v (A := A) (k := k) (m := m) (p := p) (q := q)
    rw [v0, v1, v2]
    rw [e4] at hq
    by_cases e : q = A.1 4
    · rw [if_pos e, if_pos e, if_pos e]; exact ⟨hk, hm, hp⟩
    · rw [if_neg e, if_neg e, if_neg e]; exact a7 q (by omega)
  · have v := (addPN_v (A := A) (k := k) (m := m) (p := p) (q := 0)).2.2.2
    rw [v 3 (by omega), v 4 (by omega), v 5 (by omega), v 6 (by omega), v 7 (by omega), e4]
    have := a8 l hl
    exact ⟨by omega, this.2⟩
  · have v := (addPN_v (A := A) (k := k) (m := m) (p := p) (q := 0)).2.2.2
    rw [v 8 (by omega), v 9 (by omega)]
    exact a9 o ho
theorem addLN_v {A : AT} {w p t q : Nat} : (addLN A w p t).2 3 q = (if q = A.1 5 then w else A.2 3 q) ∧ (addLN A w p t).2 4 q = (if q = A.1 5 then p else A.2 4 q) ∧ (addLN A w p t).2 5 q = (if q = A.1 5 then t else A.2 5 q) ∧ (addLN A w p t).2 6 q = (if q = A.1 5 then 0 else A.2 6 q) ∧ (addLN A w p t).2 7 q = (if q = A.1 5 then 0 else A.2 7 q) ∧ ∀ j, j < 3 ∨ 8 ≤ j → (addLN A w p t).2 j = A.2 j := by
  refine ⟨?_, ?_, ?_, ?_, ?_, fun j hj => ?_⟩
  · show (setA (setA (setA (setA (setA A 3 (A.1 5) w) 4 (A.1 5) p) 5 (A.1 5) t) 6 (A.1 5) 0) 7 (A.1 5) 0).2 3 q = _
    rw [setA_j (by omega), setA_j (by omega), setA_j (by omega), setA_j (by omega)]
    by_cases e : q = A.1 5
    · rw [e, if_pos rfl, setA_same]
    · rw [if_neg e, setA_k e]
  · show (setA (setA (setA (setA (setA A 3 (A.1 5) w) 4 (A.1 5) p) 5 (A.1 5) t) 6 (A.1 5) 0) 7 (A.1 5) 0).2 4 q = _
    rw [setA_j (by omega), setA_j (by omega), setA_j (by omega)]
    by_cases e : q = A.1 5
    · rw [e, if_pos rfl, setA_same]
    · rw [if_neg e, setA_k e, setA_j (by omega)]
  · show (setA (setA (setA (setA (setA A 3 (A.1 5) w) 4 (A.1 5) p) 5 (A.1 5) t) 6 (A.1 5) 0) 7 (A.1 5) 0).2 5 q = _
    rw [setA_j (by omega), setA_j (by omega)]
    by_cases e : q = A.1 5
    · rw [e, if_pos rfl, setA_same]
    · rw [if_neg e, setA_k e, setA_j (by omega), setA_j (by omega)]
  · show (setA (setA (setA (setA (setA A 3 (A.1 5) w) 4 (A.1 5) p) 5 (A.1 5) t) 6 (A.1 5) 0) 7 (A.1 5) 0).2 6 q = _
    rw [setA_j (by omega)]
    by_cases e : q = A.1 5
    · rw [e, if_pos rfl, setA_same]
    · rw [if_neg e, setA_k e, setA_j (by omega), setA_j (by omega), setA_j (by omega)]
  · show (setA (setA (setA (setA (setA A 3 (A.1 5) w) 4 (A.1 5) p) 5 (A.1 5) t) 6 (A.1 5) 0) 7 (A.1 5) 0).2 7 q = _
    by_cases e : q = A.1 5
    · rw [e, if_pos rfl, setA_same]
    · rw [if_neg e, setA_k e, setA_j (by omega), setA_j (by omega), setA_j (by omega), setA_j (by omega)]
  · show (setA (setA (setA (setA (setA A 3 (A.1 5) w) 4 (A.1 5) p) 5 (A.1 5) t) 6 (A.1 5) 0) 7 (A.1 5) 0).2 j = _
    rw [setA_j (by omega), setA_j (by omega), setA_j (by omega), setA_j (by omega), setA_j (by omega)]
theorem okA_addLN {b : Nat} {A : AT} {w p t : Nat} (h : okA b A) (h8 : A.1 5 < 8) (hw : w < A.1 4) (hp : 1 ≤ p ∧ p ≤ 99) (ht : 1 ≤ t ∧ t ≤ 12) : okA b (addLN A w p t) := by
  obtain ⟨a0, a1, a2, a3, a4, a5, a6, a7, a8, a9⟩ := h
  have e4 : (addLN A w p t).1 5 = A.1 5 + 1 := setS_same
  have e40 : (addLN A w p t).1 4 = A.1 4 := setS_k (by omega)
  refine ⟨a0, a1, a2, a3, a4, by rw [e4]; omega, a6, fun q hq => ?_, fun l hl => ?_, fun o ho => ?_⟩
  · have v := (addLN_v (A := A) (w := w) (p := p) (t := t) (q := 0)).2.2.2.2.2
    rw [v 0 (by omega), v 1 (by omega), v 2 (by omega)]
    exact a7 q hq
  · obtain ⟨v3, v4, v5, v6, v7, _⟩ := addLN_v (A := A) (w := w) (p := p) (t := t) (q := l)
    rw [v3, v4, v5, v6, v7, e40]
    rw [e4] at hl
    by_cases e : l = A.1 5
    · rw [if_pos e, if_pos e, if_pos e, if_pos e, if_pos e]
      exact ⟨hw, hp.1, hp.2, ht.1, ht.2, by omega, by omega, fun _ => by omega⟩
    · rw [if_neg e, if_neg e, if_neg e, if_neg e, if_neg e]; exact a8 l (by omega)
  · have v := (addLN_v (A := A) (w := w) (p := p) (t := t) (q := 0)).2.2.2.2.2
    rw [v 8 (by omega), v 9 (by omega)]
    exact a9 o ho
theorem addON_v {A : AT} {p t q : Nat} : (addON A p t).2 8 q = (if q = A.1 6 then p else A.2 8 q) ∧ (addON A p t).2 9 q = (if q = A.1 6 then t else A.2 9 q) ∧ ∀ j, j < 8 ∨ 10 ≤ j → (addON A p t).2 j = A.2 j := by
  refine ⟨?_, ?_, fun j hj => ?_⟩
  · show (setA (setA A 8 (A.1 6) p) 9 (A.1 6) t).2 8 q = _
    rw [setA_j (by omega)]
    by_cases e : q = A.1 6
    · rw [e, if_pos rfl, setA_same]
    · rw [if_neg e, setA_k e]
  · show (setA (setA A 8 (A.1 6) p) 9 (A.1 6) t).2 9 q = _
    by_cases e : q = A.1 6
    · rw [e, if_pos rfl, setA_same]
    · rw [if_neg e, setA_k e, setA_j (by omega)]
  · show (setA (setA A 8 (A.1 6) p) 9 (A.1 6) t).2 j = _
    rw [setA_j (by omega), setA_j (by omega)]
theorem okA_addON {b : Nat} {A : AT} {p t : Nat} (h : okA b A) (h8 : A.1 6 < 8) (hp : 1 ≤ p ∧ p ≤ 99) (ht : 1 ≤ t ∧ t ≤ 12) : okA b (addON A p t) := by
  obtain ⟨a0, a1, a2, a3, a4, a5, a6, a7, a8, a9⟩ := h
  have e4 : (addON A p t).1 6 = A.1 6 + 1 := setS_same
  have v := (addON_v (A := A) (p := p) (t := t) (q := 0)).2.2
  refine ⟨a0, a1, a2, a3, a4, a5, by rw [e4]; omega, fun q hq => ?_, fun l hl => ?_, fun o ho => ?_⟩
  · rw [v 0 (by omega), v 1 (by omega), v 2 (by omega)]
    exact a7 q hq
  · rw [v 3 (by omega), v 4 (by omega), v 5 (by omega), v 6 (by omega), v 7 (by omega)]
    exact a8 l hl
  · obtain ⟨v8, v9, _⟩ := addON_v (A := A) (p := p) (t := t) (q := o)
    rw [v8, v9]
    rw [e4] at ho
    by_cases e : o = A.1 6
    · rw [if_pos e, if_pos e]; exact ⟨hp.1, hp.2, ht.1, ht.2⟩
    · rw [if_neg e, if_neg e]; exact a9 o (by omega)
theorem rest_eq {A A' : AT} {t t' : Nat → Int32} (h : rM A t) (h' : rM A' t') (e : A'.2 10 = A.2 10) : ∀ k, k = 7 ∨ 82 ≤ k → t' k = t k := fun k hk => by rw [h'.2.2.2.2.2 k hk, h.2.2.2.2.2 k hk, e]
theorem rMPast_eq {H : AP} {t t' : Nat → Int32} (h : rMPast H t) (e : ∀ k, k = 7 ∨ 82 ≤ k → t' k = t k) : rMPast H t' := by
  refine ⟨by rw [e 7 (by omega)]; exact h.1, fun i hi => ?_⟩
  obtain ⟨a, c, d⟩ := h.2 i hi
  refine ⟨fun q hq => ?_, fun q hq => ?_, fun q hq => ?_⟩
  · rw [e _ (by omega)]; exact a q hq
  · rw [e _ (by omega)]; exact c q hq
  · rw [e _ (by omega), e _ (by omega), e _ (by omega)]; exact d q hq
section
variable {b : Nat} {B : Nat → Int32} {N : Tw} {P : Ps} {I1 : Int32} {T1 : Tw} {P1 : Ps} {I2 : Int32} {T2 : Tw} {P2 : Ps} {X : Tx} {K : Ch} {M : Ms}
theorem q_person (h : SR b B N P I1 T1 P1 I2 T2 P2 X K M) (x y z : Int32) : ∃ r B' N' M', f_X7_person x y z B N = some (r, B', N') ∧ f_X8_person x y z M = some (r, M') ∧ SR (b + 96) B' N' P I1 T1 P1 I2 T2 P2 X K M' := by
  obtain ⟨A, H, rt, rm, oa, rp, rmp, op⟩ := h.2.1
  unfold f_X7_person f_X8_person f_X7_person_30 f_X8_person_30
  rcases in_cases x 0 5 (by omega) (by omega) with ⟨i, _, hi, ei, e8, e7⟩ | ⟨e8, e7⟩
  · rw [show f_X7_within x 0 5 = some 1 from e7, show f_X8_in x 0 5 = some 1 from e8]
    rcases in_cases y 0 99 (by omega) (by omega) with ⟨j, _, hj, ej, f8, f7⟩ | ⟨f8, f7⟩
    · rw [show f_X7_within y 0 99 = some 1 from f7, show f_X8_in y 0 99 = some 1 from f8]
      rcases in_cases z 0 9999 (by omega) (by omega) with ⟨k, _, hk, ek, g8, g7⟩ | ⟨g8, g7⟩
      · rw [show f_X7_within z 0 9999 = some 1 from g7, show f_X8_in z 0 9999 = some 1 from g8]
        simp only [bn_s, if_neg i10]
        have c4 : (M.2.2 0) 3 = nI (A.1 4) := rm.2.1 4 (by omega)
        have d4 : N.1 4 = nI (A.1 4) := rt.1 4 (by omega)
        have a4 := oa.2.2.2.2.1
        subst ei ej ek
        simp (disch := omega) only [litI, gi_n, clN, c4, d4, ltN, eqN]
        by_cases hf : A.1 4 = 6
        · rw [if_neg (by omega), if_pos hf]
          simp only [full7, full8, bn_s]
          exact ⟨_, _, _, _, rfl, rfl, SR_full h⟩
        · rw [if_pos (by omega), if_neg hf]
          obtain ⟨r, e1, hr1, hr2⟩ := s_addPerson rt (by omega) i j k
          obtain ⟨t', e2, ht⟩ := m_addPerson rm (by omega) i j k
          rw [e1, e2]
          have c' : t' 3 = nI (A.1 4 + 1) := ht.2.1 4 (by omega)
          simp only [bn_s, lett_d, vu_s, c', subN (show 1 ≤ A.1 4 + 1 by omega), hr1]
          refine ⟨_, _, _, _, rfl, rfl, SR_set h rp op (rMPast_eq rmp (rest_eq rm ht ?_)) hr2 ht (okA_mono (okA_addPN oa (by omega) hi hj hk) (by omega)) ?_ (Nat.le_refl _) (fun l _ => ?_)⟩
          · exact (addPN_v (q := 0)).2.2.2 10 (by omega)
          · show A.1 4 ≤ A.1 4 + 1
            omega
          · rw [(addPN_v (q := 0)).2.2.2 5 (by omega)]
      · rw [show f_X7_within z 0 9999 = some 0 from g7, show f_X8_in z 0 9999 = some 0 from g8]
        simp only [bn_s, if_true, if_neg i10, bad7, bad8]
        exact ⟨_, _, _, _, rfl, rfl, SR_bad h⟩
    · rw [show f_X7_within y 0 99 = some 0 from f7, show f_X8_in y 0 99 = some 0 from f8]
      simp only [bn_s, if_true, if_neg i10, bad7, bad8]
      exact ⟨_, _, _, _, rfl, rfl, SR_bad h⟩
  · rw [show f_X7_within x 0 5 = some 0 from e7, show f_X8_in x 0 5 = some 0 from e8]
    simp only [bn_s, if_true, bad7, bad8]
    exact ⟨_, _, _, _, rfl, rfl, SR_bad h⟩
theorem q_loan (h : SR b B N P I1 T1 P1 I2 T2 P2 X K M) (x y z : Int32) : ∃ r B' N' M', f_X7_loan x y z B N = some (r, B', N') ∧ f_X8_loan x y z M = some (r, M') ∧ SR (b + 96) B' N' P I1 T1 P1 I2 T2 P2 X K M' := by
  obtain ⟨A, H, rt, rm, oa, rp, rmp, op⟩ := h.2.1
  unfold f_X7_loan f_X8_loan f_X7_loan_31 f_X8_loan_28
  rcases person_cases rt rm oa x with ⟨i, hi, ei, e8, e7⟩ | ⟨e8, e7⟩
  · rw [e7, e8]
    rcases in_cases y 1 99 (by omega) (by omega) with ⟨j, hj0, hj, ej, f8, f7⟩ | ⟨f8, f7⟩
    · rw [show f_X7_within y 1 99 = some 1 from f7, show f_X8_in y 1 99 = some 1 from f8]
      rcases in_cases z 1 12 (by omega) (by omega) with ⟨k, hk0, hk, ek, g8, g7⟩ | ⟨g8, g7⟩
      · rw [show f_X7_within z 1 12 = some 1 from g7, show f_X8_in z 1 12 = some 1 from g8]
        simp only [bn_s, if_neg i10]
        have c4 : (M.2.2 0) 4 = nI (A.1 5) := rm.2.1 5 (by omega)
        have d4 : N.1 5 = nI (A.1 5) := rt.1 5 (by omega)
        have a4 := oa.2.2.2.2.2.1
        subst ei ej ek
        simp (disch := omega) only [litI, gi_n, clN, c4, d4, ltN, eqN]
        by_cases hf : A.1 5 = 8
        · rw [if_neg (by omega), if_pos hf]
          simp only [full7, full8, bn_s]
          exact ⟨_, _, _, _, rfl, rfl, SR_full h⟩
        · rw [if_pos (by omega), if_neg hf]
          obtain ⟨r, e1, hr1, hr2⟩ := s_addLoan rt (by omega) i j k
          obtain ⟨t', e2, ht⟩ := m_addLoan rm (by omega) i j k
          rw [e1, e2]
          have c' : t' 4 = nI (A.1 5 + 1) := ht.2.1 5 (by omega)
          simp only [bn_s, lett_d, vu_s, c', subN (show 1 ≤ A.1 5 + 1 by omega), hr1]
          refine ⟨_, _, _, _, rfl, rfl, SR_set h rp op (rMPast_eq rmp (rest_eq rm ht ?_)) hr2 ht (okA_mono (okA_addLN oa (by omega) hi ⟨hj0, hj⟩ ⟨hk0, hk⟩) (by omega)) (Nat.le_refl _) ?_ (fun l hl => ?_)⟩
          · exact (addLN_v (q := 0)).2.2.2.2.2 10 (by omega)
          · show A.1 5 ≤ A.1 5 + 1
            omega
          · rw [addLN_v.2.2.1, if_neg (by omega)]
      · rw [show f_X7_within z 1 12 = some 0 from g7, show f_X8_in z 1 12 = some 0 from g8]
        simp only [bn_s, if_true, if_neg i10, bad7, bad8]
        exact ⟨_, _, _, _, rfl, rfl, SR_bad h⟩
    · rw [show f_X7_within y 1 99 = some 0 from f7, show f_X8_in y 1 99 = some 0 from f8]
      simp only [bn_s, if_true, if_neg i10, bad7, bad8]
      exact ⟨_, _, _, _, rfl, rfl, SR_bad h⟩
  · rw [e7, e8]
    simp only [bn_s, if_true, bad7, bad8]
    exact ⟨_, _, _, _, rfl, rfl, SR_bad h⟩
theorem q_offer (h : SR b B N P I1 T1 P1 I2 T2 P2 X K M) (y z : Int32) : ∃ r B' N' M', f_X7_offer y z B N = some (r, B', N') ∧ f_X8_offer y z M = some (r, M') ∧ SR (b + 96) B' N' P I1 T1 P1 I2 T2 P2 X K M' := by
  obtain ⟨A, H, rt, rm, oa, rp, rmp, op⟩ := h.2.1
  unfold f_X7_offer f_X8_offer f_X7_offer_20 f_X8_offer_20
  rcases in_cases y 1 99 (by omega) (by omega) with ⟨j, hj0, hj, ej, f8, f7⟩ | ⟨f8, f7⟩
  · rw [show f_X7_within y 1 99 = some 1 from f7, show f_X8_in y 1 99 = some 1 from f8]
    rcases in_cases z 1 12 (by omega) (by omega) with ⟨k, hk0, hk, ek, g8, g7⟩ | ⟨g8, g7⟩
    · rw [show f_X7_within z 1 12 = some 1 from g7, show f_X8_in z 1 12 = some 1 from g8]
      simp only [bn_s, if_neg i10]
      have c4 : (M.2.2 0) 5 = nI (A.1 6) := rm.2.1 6 (by omega)
      have d4 : N.1 6 = nI (A.1 6) := rt.1 6 (by omega)
      have a4 := oa.2.2.2.2.2.2.1
      subst ej ek
      simp (disch := omega) only [litI, gi_n, clN, c4, d4, ltN, eqN]
      by_cases hf : A.1 6 = 8
      · rw [if_neg (by omega), if_pos hf]
        simp only [full7, full8, bn_s]
        exact ⟨_, _, _, _, rfl, rfl, SR_full h⟩
      · rw [if_pos (by omega), if_neg hf]
        obtain ⟨r, e1, hr1, hr2⟩ := s_addOffer rt (by omega) j k
        obtain ⟨t', e2, ht⟩ := m_addOffer rm (by omega) j k
        rw [e1, e2]
        have c' : t' 5 = nI (A.1 6 + 1) := ht.2.1 6 (by omega)
        simp only [bn_s, lett_d, vu_s, c', subN (show 1 ≤ A.1 6 + 1 by omega), hr1]
        refine ⟨_, _, _, _, rfl, rfl, SR_set h rp op (rMPast_eq rmp (rest_eq rm ht ?_)) hr2 ht (okA_mono (okA_addON oa (by omega) ⟨hj0, hj⟩ ⟨hk0, hk⟩) (by omega)) (Nat.le_refl _) (Nat.le_refl _) (fun l hl => ?_)⟩
        · exact (addON_v (q := 0)).2.2 10 (by omega)
        · rw [(addON_v (q := 0)).2.2 5 (by omega)]
    · rw [show f_X7_within z 1 12 = some 0 from g7, show f_X8_in z 1 12 = some 0 from g8]
      simp only [bn_s, if_true, if_neg i10, bad7, bad8]
      exact ⟨_, _, _, _, rfl, rfl, SR_bad h⟩
  · rw [show f_X7_within y 1 99 = some 0 from f7, show f_X8_in y 1 99 = some 0 from f8]
    simp only [bn_s, if_true, if_neg i10, bad7, bad8]
    exact ⟨_, _, _, _, rfl, rfl, SR_bad h⟩
end
