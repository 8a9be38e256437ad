/-! PURE: a month. -/
def comesN (kind means month : Nat) : Nat := (if (kind = 1 ∨ kind = 3) ∧ month % 3 = 0 then 0 else means) + (if kind = 3 then 2 else 0) + (if kind = 4 ∧ month % 12 = 6 then 60 else 0)
def purseN (dry : Bool) (kind means month purse : Nat) : Nat := min 9999 (purse + (if dry then 0 else comesN kind means month))
def spendN (kind pu : Nat) : Nat := if (kind = 2 ∨ kind = 4) ∧ 50 < pu then pu / 2 else pu
def stP (dry : Nat → Bool) (p : Nat) (A : AT) : AT := setA A 2 p (spendN (A.2 0 p) (purseN (dry p) (A.2 0 p) (A.2 1 p) (A.1 2) (A.2 2 p)))
def gainN (A : AT) (p t : Nat) : Nat := p * t * A.1 1 / 100
def wholeN (A : AT) (l : Nat) : Nat := A.2 4 l * A.2 5 l + gainN A (A.2 4 l) (A.2 5 l)
/-- what his purse must have -/
def needN (A : AT) (l : Nat) : Nat := if A.2 0 (A.2 3 l) = 5 then 2 * A.2 4 l else A.2 4 l
def giveN (l : Nat) (A : AT) : AT :=
  if A.2 6 l = 0 then
    (if A.2 2 (A.2 3 l) < needN A l then setA A 6 l 2
    else (if A.2 7 l + 1 = A.2 5 l then setA (setA (setS (setA A 2 (A.2 3 l) (A.2 2 (A.2 3 l) - A.2 4 l)) 0 (min 99999 (A.1 0 + A.2 4 l))) 7 l (A.2 7 l + 1)) 6 l 3
      else setA (setS (setA A 2 (A.2 3 l) (A.2 2 (A.2 3 l) - A.2 4 l)) 0 (min 99999 (A.1 0 + A.2 4 l))) 7 l (A.2 7 l + 1)))
  else A
def payN (l : Nat) (A : AT) : AT :=
  if A.2 6 l = 3 then
    (if A.1 0 < wholeN A l then setS A 3 (A.1 3 + 1)
    else setA (setA (setS A 0 (A.1 0 - wholeN A l)) 2 (A.2 3 l) (min 9999 (A.2 2 (A.2 3 l) + wholeN A l))) 6 l 1)
  else A
def foldN {α : Type} (f : Nat → α → α) : Nat → α → α
  | 0, a => a
  | n + 1, a => f n (foldN f n a)
def peopleN (dry : Nat → Bool) (A : AT) : AT := foldN (stP dry) (A.1 4) A
def givesN (A : AT) : AT := foldN giveN (A.1 5) A
def paysN (A : AT) : AT := foldN payN (A.1 5) A
def monthN (dry : Nat → Bool) (A : AT) : AT := setS (paysN (givesN (peopleN dry A))) 2 (A.1 2 + 1)
theorem min_if {a b : Nat} : (if a < b then nI a else nI b) = nI (min b a) := by
  by_cases h : a < b
  · rw [if_pos h, Nat.min_eq_right (by omega)]
  · rw [if_neg h, Nat.min_eq_left (by omega)]
theorem s_comesTo {A : AT} {T : Tw} {b p : Nat} (h : rT A T) (hA : okA b A) (hb : b < 1000000) (hp : p < A.1 4) : f_X5_comesTo (nI p) T = some (nI (comesN (A.2 0 p) (A.2 1 p) (A.1 2))) := by
  have e0 := h.2.1 0 (by omega) p hp
  have e1 := h.2.1 1 (by omega) p hp
  have em := h.1 2 (by omega)
  obtain ⟨a0, a1, a2, a3, a4, a5, a6, aP, aL, aO⟩ := hA
  obtain ⟨k0, k1, k2⟩ := aP p hp
  generalize A.2 0 p = kd at *
  generalize A.2 1 p = me at *
  generalize A.1 2 = mo at *
  simp (disch := omega) only [f_X5_comesTo, f_X5_comesTo_20, f_X5_comesTo_25, f_X5_comesTo_43, f_X5_comesTo_49, f_X5_comesTo_63, gi_n, clN, litI, e0, e1, em, eqN, divN, pk_mul, subN, lett_d, nI_add]
  have h3 : mo - mo / 3 * 3 = mo % 3 := by omega
  have h12 : mo - mo / 12 * 12 = mo % 12 := by omega
  simp only [h3, h12]
  unfold comesN
  have hk : kd = 0 ∨ kd = 1 ∨ kd = 2 ∨ kd = 3 ∨ kd = 4 ∨ kd = 5 := by omega
  by_cases q3 : mo % 3 = 0 <;> by_cases q12 : mo % 12 = 6 <;> rcases hk with rfl | rfl | rfl | rfl | rfl | rfl <;> simp [q3, q12]
theorem s_takeMeans {A : AT} {T : Tw} {b p : Nat} (h : rT A T) (hA : okA b A) (hb : b < 1000000) (hp : p < A.1 4) : f_X5_takeMeans (nI p) T = some (T.1, va_up T.2 2 (upd (T.2 2) p (nI (purseN false (A.2 0 p) (A.2 1 p) (A.1 2) (A.2 2 p))))) := by
  have e2 := h.2.1 2 (by omega) p hp
  have ec := s_comesTo h hA hb hp
  obtain ⟨a0, a1, a2, a3, a4, a5, a6, aP, aL, aO⟩ := hA
  obtain ⟨k0, k1, k2⟩ := aP p hp
  have hc : comesN (A.2 0 p) (A.2 1 p) (A.1 2) ≤ 161 := by unfold comesN; split <;> split <;> split <;> omega
  simp (disch := omega) only [f_X5_takeMeans, gi_n, clN, litI, e2, ec, bn_s, lett_d, nI_add, ltN]
  unfold purseN
  simp only [min_if, Bool.false_eq_true, if_false]
theorem s_spendHalf {A : AT} {T : Tw} {p pu : Nat} (hp : p < 6) (e0 : T.2 0 p = nI (A.2 0 p)) (e2 : T.2 2 p = nI pu) (hk : A.2 0 p ≤ 5) (hpu : pu ≤ 9999) : ok (fun T' : Tw => T' = (T.1, va_up T.2 2 (upd (T.2 2) p (nI (spendN (A.2 0 p) pu))))) (f_X5_spendHalf (nI p) T) := by
  have hsame : T = (T.1, va_up T.2 2 (upd (T.2 2) p (nI pu))) := by
    have e : upd (T.2 2) p (nI pu) = T.2 2 := by funext q; unfold upd; split <;> simp_all
    rw [e]
    have e3 : va_up T.2 2 (T.2 2) = T.2 := by funext q; unfold va_up; split <;> simp_all
    rw [e3]
  generalize A.2 0 p = kd at *
  simp (disch := omega) only [f_X5_spendHalf, f_X5_spendHalf_20, f_X5_spendHalf_25, gi_n, clN, litI, e0, e2, eqN, leN, divN, lett_d]
  unfold spendN
  have hk : kd = 0 ∨ kd = 1 ∨ kd = 2 ∨ kd = 3 ∨ kd = 4 ∨ kd = 5 := by omega
  by_cases h5 : pu ≤ 50
  · have h5' : ¬ 50 < pu := by omega
    simp only [h5', and_false, if_false, h5, if_true, ite_self]
    exact ok_s hsame
  · have h5' : 50 < pu := by omega
    rcases hk with rfl | rfl | rfl | rfl | rfl | rfl <;> simp [h5, h5'] <;> first | exact ok_s hsame | exact ok_s rfl
/-- the model -/
theorem m_least (a b : Nat) (ha : a < 1000000000) (hb : b < 1000000000) : f_X8_least (nI a) (nI b) = some (nI (min a b)) := by
  unfold f_X8_least
  simp (disch := omega) only [leN]
  split
  · congr 2; omega
  · congr 2; omega
theorem m_comes (kd me mo : Nat) (hk : kd ≤ 5) (hm : me ≤ 99) (hmo : mo < 100000000) : f_X8_comes (nI kd) (nI me) (nI mo) = some (nI (comesN kd me mo)) := by
  simp (disch := omega) only [f_X8_comes, f_X8_comes_10, f_X8_comes_20, f_X8_comes_21, f_X8_comes_33, litI, eqN, divN, pk_mul, subN, nI_add]
  have h3 : mo - mo / 3 * 3 = mo % 3 := by omega
  have h12 : mo - mo / 12 * 12 = mo % 12 := by omega
  simp only [h3, h12]
  unfold comesN
  have hk : kd = 0 ∨ kd = 1 ∨ kd = 2 ∨ kd = 3 ∨ kd = 4 ∨ kd = 5 := by omega
  by_cases q3 : mo % 3 = 0 <;> by_cases q12 : mo % 12 = 6 <;> rcases hk with rfl | rfl | rfl | rfl | rfl | rfl <;> simp [q3, q12]
theorem s_wholeOf {A : AT} {T : Tw} {b l : Nat} (h : rT A T) (hA : okA b A) (hl : l < A.1 5) : f_X5_wholeOf (nI l) T = some (nI (wholeN A l)) := by
  have e4 := h.2.2.1 4 (by omega) (by omega) l hl
  have e5 := h.2.2.1 5 (by omega) (by omega) l hl
  have er := h.1 1 (by omega)
  obtain ⟨a0, a1, a2, a3, a4, a5, a6, aP, aL, aO⟩ := hA
  obtain ⟨l1, l2, l3, l4, l5, l6, l7, l8⟩ := aL l hl
  unfold wholeN gainN
  generalize A.2 4 l = pe at *
  generalize A.2 5 l = ti at *
  generalize A.1 1 = ra at *
  have h1 : pe * ti ≤ 99 * 12 := Nat.mul_le_mul l3 l5
  have h2 : pe * ti * ra ≤ 99 * 12 * 50 := Nat.mul_le_mul h1 a1
  simp (disch := omega) only [f_X5_wholeOf, f_X5_gainOf, gi_n, clN, litI, e4, e5, er, bn_s, pk_mul, divN, nI_add]
theorem wholeN_le {A : AT} {b l : Nat} (hA : okA b A) (hl : l < A.1 5) : wholeN A l ≤ 1782 := by
  obtain ⟨a0, a1, a2, a3, a4, a5, a6, aP, aL, aO⟩ := hA
  obtain ⟨l1, l2, l3, l4, l5, l6, l7, l8⟩ := aL l hl
  unfold wholeN gainN
  have h1 : A.2 4 l * A.2 5 l ≤ 99 * 12 := Nat.mul_le_mul l3 l5
  have h2 : A.2 4 l * A.2 5 l * A.1 1 ≤ 99 * 12 * 50 := Nat.mul_le_mul h1 a1
  omega
theorem s_payOrLack {A : AT} {T : Tw} {b l : Nat} (h : rT A T) (hA : okA b A) (hb : b < 1000000) (hl : l < A.1 5) (hs : A.2 6 l = 3) : ok (fun T' => rT (payN l A) T') (f_X5_payOrLack (nI l) T) := by
  have ew := s_wholeOf h hA hl
  have hw := wholeN_le hA hl
  have e3 := h.2.2.1 3 (by omega) (by omega) l hl
  have c0 := h.1 0 (by omega)
  have c3 := h.1 3 (by omega)
  obtain ⟨a0, a1, a2, a3, a4, a5, a6, aP, aL, aO⟩ := hA
  obtain ⟨l1, l2, l3, l4, l5, l6, l7, l8⟩ := aL l hl
  have e2 := h.2.1 2 (by omega) (A.2 3 l) l1
  obtain ⟨k0, k1, k2⟩ := aP (A.2 3 l) l1
  unfold payN
  rw [if_pos hs]
  generalize wholeN A l = wo at *
  unfold f_X5_payOrLack
  simp (disch := omega) only [ew, bn_s, c0, c3, leN, gi_n, clN, e3]
  by_cases hc : wo ≤ A.1 0
  · rw [if_pos hc, if_neg (by omega)]
    refine ok_lett (fun ow ho => ?_)
    subst ho
    simp (disch := omega) only [gi_n, clN]
    refine ok_lett (fun T1 h1 => ?_)
    have r1 : rT (setS A 0 (A.1 0 - wo)) T1 := by rw [h1, subN hc]; exact rT_setS h (by omega)
    have e21 : T1.2 2 (A.2 3 l) = nI (A.2 2 (A.2 3 l)) := r1.2.1 2 (by omega) (A.2 3 l) (by rw [setS_k (by omega)]; exact l1)
    simp (disch := omega) only [e21, nI_add, litI, ltN, min_if]
    refine ok_lett (fun T2 h2 => ?_)
    have r2 : rT (setA (setS A 0 (A.1 0 - wo)) 2 (A.2 3 l) (min 9999 (A.2 2 (A.2 3 l) + wo))) T2 := by rw [h2]; exact rT_setA r1
    refine ok_lett (fun T3 h3 => ?_)
    exact ok_s (by rw [h3]; exact rT_setA r2)
  · rw [if_neg hc, if_pos (by omega)]
    refine ok_lett (fun T1 h1 => ?_)
    exact ok_s (by rw [h1]; simp only [litI, nI_add]; exact rT_setS h (by omega))
theorem s_give34 {A : AT} {T : Tw} {b l nd : Nat} (h : rT A T) (hA : okA b A) (hl : l < A.1 5) (hs : A.2 6 l = 0) (hnd : nd = needN A l) : ok (fun T' => rT (giveN l A) T') (f_X5_giveOrStop_34 (nI l) (nI (A.2 3 l)) (nI nd) T) := by
  have c0 := h.1 0 (by omega)
  have e4 := h.2.2.1 4 (by omega) (by omega) l hl
  have e7 := h.2.2.1 7 (by omega) (by omega) l hl
  have e5 := h.2.2.1 5 (by omega) (by omega) l hl
  obtain ⟨a0, a1, a2, a3, a4, a5, a6, aP, aL, aO⟩ := hA
  obtain ⟨l1, l2, l3, l4, l5, l6, l7, l8⟩ := aL l hl
  have e2 := h.2.1 2 (by omega) (A.2 3 l) l1
  obtain ⟨k0, k1, k2⟩ := aP (A.2 3 l) l1
  have hge : A.2 4 l ≤ nd ∧ nd ≤ 198 := by rw [hnd]; unfold needN; split <;> omega
  unfold giveN
  rw [if_pos hs, ← hnd]
  unfold f_X5_giveOrStop_34
  simp (disch := omega) only [gi_n, clN, e2, leN]
  by_cases hc : nd ≤ A.2 2 (A.2 3 l)
  · rw [if_pos hc, if_neg (by omega)]
    refine ok_lett (fun T1 h1 => ?_)
    have r1 : rT (setA A 2 (A.2 3 l) (A.2 2 (A.2 3 l) - A.2 4 l)) T1 := by rw [h1, e4, subN (by omega)]; exact rT_setA h
    have x41 : T1.2 4 l = nI (A.2 4 l) := by have := r1.2.2.1 4 (by omega) (by omega) l hl; rw [this, setA_j (by omega)]
    have x01 : T1.1 0 = nI (A.1 0) := r1.1 0 (by omega)
    simp (disch := omega) only [x41, x01, nI_add, litI, ltN, min_if]
    refine ok_lett (fun T2 h2 => ?_)
    have r2 : rT (setS (setA A 2 (A.2 3 l) (A.2 2 (A.2 3 l) - A.2 4 l)) 0 (min 99999 (A.1 0 + A.2 4 l))) T2 := by rw [h2]; exact rT_setS r1 (by omega)
    have x72 : T2.2 7 l = nI (A.2 7 l) := by have := r2.2.2.1 7 (by omega) (by omega) l (by rw [setS_k (by omega)]; exact hl); rw [this, setS_2, setA_j (by omega)]
    simp (disch := omega) only [x72, nI_add, litI]
    refine ok_lett (fun T3 h3 => ?_)
    have r3 : rT (setA (setS (setA A 2 (A.2 3 l) (A.2 2 (A.2 3 l) - A.2 4 l)) 0 (min 99999 (A.1 0 + A.2 4 l))) 7 l (A.2 7 l + 1)) T3 := by rw [h3]; exact rT_setA r2
    have hl3 : l < (setA (setS (setA A 2 (A.2 3 l) (A.2 2 (A.2 3 l) - A.2 4 l)) 0 (min 99999 (A.1 0 + A.2 4 l))) 7 l (A.2 7 l + 1)).1 5 := by rw [setA_1, setS_k (by omega)]; exact hl
    have x73 : T3.2 7 l = nI (A.2 7 l + 1) := by have := r3.2.2.1 7 (by omega) (by omega) l hl3; rw [this, setA_same]
    have x53 : T3.2 5 l = nI (A.2 5 l) := by have := r3.2.2.1 5 (by omega) (by omega) l hl3; rw [this, setA_j (by omega), setS_2, setA_j (by omega)]
    have hlt := l8 hs
    simp (disch := omega) only [x73, x53, ltN]
    by_cases hd : A.2 7 l + 1 < A.2 5 l
    · rw [if_pos hd, if_neg (by omega)]
      exact ok_s r3
    · rw [if_neg hd, if_pos (by omega)]
      refine ok_lett (fun T4 h4 => ?_)
      exact ok_s (by rw [h4]; exact rT_setA r3)
  · rw [if_neg hc, if_pos (by omega)]
    refine ok_lett (fun T1 h1 => ?_)
    exact ok_s (by rw [h1]; exact rT_setA h)
theorem s_giveOrStop {A : AT} {T : Tw} {b l : Nat} (h : rT A T) (hA : okA b A) (hl : l < A.1 5) (hs : A.2 6 l = 0) : ok (fun T' => rT (giveN l A) T') (f_X5_giveOrStop (nI l) T) := by
  have e3 := h.2.2.1 3 (by omega) (by omega) l hl
  have e4 := h.2.2.1 4 (by omega) (by omega) l hl
  have hA' := hA
  obtain ⟨a0, a1, a2, a3, a4, a5, a6, aP, aL, aO⟩ := hA
  obtain ⟨l1, l2, l3, l4, l5, l6, l7, l8⟩ := aL l hl
  have e0 := h.2.1 0 (by omega) (A.2 3 l) l1
  obtain ⟨k0, k1, k2⟩ := aP (A.2 3 l) l1
  unfold f_X5_giveOrStop
  simp (disch := omega) only [gi_n, clN, e3, lett_d, e0, litI, eqN, e4, pk_mul]
  by_cases hk : A.2 0 (A.2 3 l) = 5
  · rw [if_pos hk]
    exact s_give34 h hA' hl hs (by unfold needN; rw [if_pos hk])
  · rw [if_neg hk]
    exact s_give34 h hA' hl hs (by unfold needN; rw [if_neg hk])
theorem okA_mono {b b' : Nat} {A : AT} (hA : okA b A) (h : b ≤ b') : okA b' A := by
  obtain ⟨a0, a1, a2, a3, r⟩ := hA
  exact ⟨a0, a1, by omega, by omega, r⟩
theorem okA_purse {b p x : Nat} {A : AT} (hA : okA b A) (hx : x ≤ 9999) : okA b (setA A 2 p x) := by
  obtain ⟨a0, a1, a2, a3, a4, a5, a6, aP, aL, aO⟩ := hA
  refine ⟨a0, a1, a2, a3, a4, a5, a6, fun q hq => ?_, fun l hl => ?_, fun o ho => ?_⟩
  · obtain ⟨k0, k1, k2⟩ := aP q hq
    rw [setA_j (by omega), setA_j (by omega)]
    refine ⟨k0, k1, ?_⟩
    by_cases e : q = p
    · subst e; rw [setA_same]; exact hx
    · rw [setA_k e]; exact k2
  · simp only [setA_j (show (3 : Nat) ≠ 2 by omega), setA_j (show (4 : Nat) ≠ 2 by omega), setA_j (show (5 : Nat) ≠ 2 by omega), setA_j (show (6 : Nat) ≠ 2 by omega), setA_j (show (7 : Nat) ≠ 2 by omega), setA_1]
    exact aL l hl
  · simp only [setA_j (show (8 : Nat) ≠ 2 by omega), setA_j (show (9 : Nat) ≠ 2 by omega)]
    exact aO o ho
theorem okA_chest {b x : Nat} {A : AT} (hA : okA b A) (hx : x ≤ 99999) : okA b (setS A 0 x) := by
  obtain ⟨a0, a1, a2, a3, a4, a5, a6, aP, aL, aO⟩ := hA
  refine ⟨by rw [setS_same]; exact hx, ?_, ?_, ?_, ?_, ?_, ?_, ?_, ?_, ?_⟩ <;> simp only [setS_k (show (1 : Nat) ≠ 0 by omega), setS_k (show (2 : Nat) ≠ 0 by omega), setS_k (show (3 : Nat) ≠ 0 by omega), setS_k (show (4 : Nat) ≠ 0 by omega), setS_k (show (5 : Nat) ≠ 0 by omega), setS_k (show (6 : Nat) ≠ 0 by omega), setS_2] <;> assumption
theorem okA_lacks {b : Nat} {A : AT} (hA : okA b A) : okA (b + 1) (setS A 3 (A.1 3 + 1)) := by
  obtain ⟨a0, a1, a2, a3, a4, a5, a6, aP, aL, aO⟩ := hA
  have a3' : A.1 3 + 1 ≤ b + 1 := by omega
  have a2' : A.1 2 ≤ b + 1 := by omega
  refine ⟨?_, ?_, ?_, by rw [setS_same]; exact a3', ?_, ?_, ?_, ?_, ?_, ?_⟩ <;> simp only [setS_k (show (0 : Nat) ≠ 3 by omega), setS_k (show (1 : Nat) ≠ 3 by omega), setS_k (show (2 : Nat) ≠ 3 by omega), setS_k (show (4 : Nat) ≠ 3 by omega), setS_k (show (5 : Nat) ≠ 3 by omega), setS_k (show (6 : Nat) ≠ 3 by omega), setS_2] <;> assumption
theorem okA_month {b x : Nat} {A : AT} (hA : okA b A) (hx : x ≤ b) : okA b (setS A 2 x) := by
  obtain ⟨a0, a1, a2, a3, a4, a5, a6, aP, aL, aO⟩ := hA
  refine ⟨?_, ?_, by rw [setS_same]; exact hx, ?_, ?_, ?_, ?_, ?_, ?_, ?_⟩ <;> simp only [setS_k (show (0 : Nat) ≠ 2 by omega), setS_k (show (1 : Nat) ≠ 2 by omega), setS_k (show (3 : Nat) ≠ 2 by omega), setS_k (show (4 : Nat) ≠ 2 by omega), setS_k (show (5 : Nat) ≠ 2 by omega), setS_k (show (6 : Nat) ≠ 2 by omega), setS_2] <;> assumption
theorem okA_state {b l x : Nat} {A : AT} (hA : okA b A) (hx : x ≤ 4) (h0 : x ≠ 0) : okA b (setA A 6 l x) := by
  obtain ⟨a0, a1, a2, a3, a4, a5, a6, aP, aL, aO⟩ := hA
  refine ⟨a0, a1, a2, a3, a4, a5, a6, fun q hq => ?_, fun k hk => ?_, fun o ho => ?_⟩
  · simp only [setA_j (show (0 : Nat) ≠ 6 by omega), setA_j (show (1 : Nat) ≠ 6 by omega), setA_j (show (2 : Nat) ≠ 6 by omega)]
    exact aP q hq
  · obtain ⟨l1, l2, l3, l4, l5, l6, l7, l8⟩ := aL k hk
    simp only [setA_j (show (3 : Nat) ≠ 6 by omega), setA_j (show (4 : Nat) ≠ 6 by omega), setA_j (show (5 : Nat) ≠ 6 by omega), setA_j (show (7 : Nat) ≠ 6 by omega), setA_1]
    refine ⟨l1, l2, l3, l4, l5, ?_, l7, ?_⟩
    · by_cases e : k = l
      · subst e; rw [setA_same]; exact hx
      · rw [setA_k e]; exact l6
    · by_cases e : k = l
      · subst e; rw [setA_same]; intro h; exact absurd h h0
      · rw [setA_k e]; exact l8
  · simp only [setA_j (show (8 : Nat) ≠ 6 by omega), setA_j (show (9 : Nat) ≠ 6 by omega)]
    exact aO o ho
theorem okA_given {b l x : Nat} {A : AT} (hA : okA b A) (hx : l < A.1 5 → x < A.2 5 l) : okA b (setA A 7 l x) := by
  obtain ⟨a0, a1, a2, a3, a4, a5, a6, aP, aL, aO⟩ := hA
  refine ⟨a0, a1, a2, a3, a4, a5, a6, fun q hq => ?_, fun k hk => ?_, fun o ho => ?_⟩
  · simp only [setA_j (show (0 : Nat) ≠ 7 by omega), setA_j (show (1 : Nat) ≠ 7 by omega), setA_j (show (2 : Nat) ≠ 7 by omega)]
    exact aP q hq
  · obtain ⟨l1, l2, l3, l4, l5, l6, l7, l8⟩ := aL k hk
    simp only [setA_j (show (3 : Nat) ≠ 7 by omega), setA_j (show (4 : Nat) ≠ 7 by omega), setA_j (show (5 : Nat) ≠ 7 by omega), setA_j (show (6 : Nat) ≠ 7 by omega), setA_1]
    refine ⟨l1, l2, l3, l4, l5, l6, ?_, ?_⟩
    · by_cases e : k = l
      · subst e; rw [setA_same]; exact Nat.le_of_lt (hx hk)
      · rw [setA_k e]; exact l7
    · by_cases e : k = l
      · subst e; rw [setA_same]; intro _; exact hx hk
      · rw [setA_k e]; exact l8
  · simp only [setA_j (show (8 : Nat) ≠ 7 by omega), setA_j (show (9 : Nat) ≠ 7 by omega)]
    exact aO o ho
/-- given to the end: owed -/
theorem okA_owed {b l x y : Nat} {A : AT} (hA : okA b A) (hx : l < A.1 5 → x ≤ A.2 5 l) (hy : y ≤ 4) (hy0 : y ≠ 0) : okA b (setA (setA A 7 l x) 6 l y) := by
  obtain ⟨a0, a1, a2, a3, a4, a5, a6, aP, aL, aO⟩ := hA
  refine ⟨a0, a1, a2, a3, a4, a5, a6, fun q hq => ?_, fun k hk => ?_, fun o ho => ?_⟩
  · simp only [setA_j (show (0 : Nat) ≠ 6 by omega), setA_j (show (1 : Nat) ≠ 6 by omega), setA_j (show (2 : Nat) ≠ 6 by omega), setA_j (show (0 : Nat) ≠ 7 by omega), setA_j (show (1 : Nat) ≠ 7 by omega), setA_j (show (2 : Nat) ≠ 7 by omega)]
    exact aP q hq
  · obtain ⟨l1, l2, l3, l4, l5, l6, l7, l8⟩ := aL k hk
    simp only [setA_j (show (3 : Nat) ≠ 6 by omega), setA_j (show (4 : Nat) ≠ 6 by omega), setA_j (show (5 : Nat) ≠ 6 by omega), setA_j (show (7 : Nat) ≠ 6 by omega), setA_j (show (3 : Nat) ≠ 7 by omega), setA_j (show (4 : Nat) ≠ 7 by omega), setA_j (show (5 : Nat) ≠ 7 by omega), setA_1]
    refine ⟨l1, l2, l3, l4, l5, ?_, ?_, ?_⟩
    · by_cases e : k = l
      · subst e; rw [setA_same]; exact hy
      · rw [setA_k e, setA_j (by omega)]; exact l6
    · by_cases e : k = l
      · subst e; rw [setA_same]; exact hx hk
      · rw [setA_k e]; exact l7
    · by_cases e : k = l
      · subst e; rw [setA_same]; intro h; exact absurd h hy0
      · rw [setA_k e, setA_j (by omega), setA_k e]; exact l8
  · simp only [setA_j (show (8 : Nat) ≠ 6 by omega), setA_j (show (9 : Nat) ≠ 6 by omega), setA_j (show (8 : Nat) ≠ 7 by omega), setA_j (show (9 : Nat) ≠ 7 by omega)]
    exact aO o ho
theorem spendN_le {kd pu : Nat} (h : pu ≤ 9999) : spendN kd pu ≤ 9999 := by unfold spendN; split <;> omega
theorem purseN_le {d : Bool} {kd me mo pu : Nat} : purseN d kd me mo pu ≤ 9999 := by unfold purseN; omega
theorem okA_stP {b p : Nat} {dry : Nat → Bool} {A : AT} (hA : okA b A) : okA b (stP dry p A) := okA_purse hA (spendN_le purseN_le)
theorem okA_giveN {b l : Nat} {A : AT} (hA : okA b A) (hl : l < A.1 5) : okA b (giveN l A) := by
  obtain ⟨l1, l2, l3, l4, l5, l6, l7, l8⟩ := hA.2.2.2.2.2.2.2.2.1 l hl
  obtain ⟨k0, k1, k2⟩ := hA.2.2.2.2.2.2.2.1 _ l1
  unfold giveN
  split
  · rename_i hs
    split
    · exact okA_state hA (by omega) (by omega)
    · have r2 : okA b (setS (setA A 2 (A.2 3 l) (A.2 2 (A.2 3 l) - A.2 4 l)) 0 (min 99999 (A.1 0 + A.2 4 l))) := okA_chest (okA_purse hA (by omega)) (by omega)
      have e5 : (setS (setA A 2 (A.2 3 l) (A.2 2 (A.2 3 l) - A.2 4 l)) 0 (min 99999 (A.1 0 + A.2 4 l))).2 5 l = A.2 5 l := by rw [setS_2, setA_j (by omega)]
      have := l8 hs
      split
      · exact okA_owed r2 (fun _ => by rw [e5]; omega) (by omega) (by omega)
      · exact okA_given r2 (fun _ => by rw [e5]; omega)
  · exact hA
theorem okA_payN {b l : Nat} {A : AT} (hA : okA b A) : okA (b + 1) (payN l A) := by
  unfold payN
  split
  · split
    · exact okA_lacks hA
    · exact okA_mono (okA_state (okA_purse (okA_chest hA (by have := hA.1; omega)) (by omega)) (by omega) (by omega)) (by omega)
  · exact okA_mono hA (by omega)
theorem foldN_inv {α : Type} {f : Nat → α → α} (I : Nat → α → Prop) {a : α} (h0 : I 0 a) : ∀ n, (∀ i x, i < n → I i x → I (i + 1) (f i x)) → I n (foldN f n a)
  | 0, _ => h0
  | n + 1, hs => hs n _ (Nat.lt_succ_self n) (foldN_inv I h0 n (fun i x hi hx => hs i x (Nat.lt_succ_of_lt hi) hx))
theorem stP_1 {dry : Nat → Bool} {p : Nat} {A : AT} : (stP dry p A).1 = A.1 := rfl
theorem giveN_1 {l : Nat} {A : AT} {k : Nat} (hk : k ≠ 0) : (giveN l A).1 k = A.1 k := by
  unfold giveN
  split
  · split
    · rfl
    · split
      · rw [setA_1, setA_1, setS_k hk, setA_1]
      · rw [setA_1, setS_k hk, setA_1]
  · rfl
theorem payN_1 {l : Nat} {A : AT} {k : Nat} (hk : k ≠ 0) (hk3 : k ≠ 3) : (payN l A).1 k = A.1 k := by
  unfold payN
  split
  · split
    · rw [setS_k hk3]
    · rw [setA_1, setA_1, setS_k hk]
  · rfl
/-- the bits of those to whom nothing comes -/
def dryOf (x : Int32) (dry : Nat → Bool) : Prop := ∀ p, p < 6 → (((x >>> (nI p &&& 31)) &&& 1 = 1) ↔ dry p = true)
theorem s_hasBit {x : Int32} {dry : Nat → Bool} (hd : dryOf x dry) {p : Nat} (hp : p < 6) : f_X7_hasBit x (nI p) = some (if dry p then 1 else 0) := by
  unfold f_X7_hasBit
  by_cases h : dry p = true
  · rw [if_pos ((hd p hp).mpr h), h]; rfl
  · rw [if_neg (fun e => h ((hd p hp).mp e))]
    have : dry p = false := by cases hq : dry p <;> simp_all
    rw [this]; rfl
theorem rT_self {A : AT} {T : Tw} {j p x : Nat} (h : rT A T) (hx : A.2 j p = x) : rT (setA A j p x) T := by
  have e : setA A j p x = A := by
    unfold setA
    have : (fun i => if i = j then updN (A.2 j) p x else A.2 i) = A.2 := by
      funext i
      by_cases h : i = j
      · subst h
        rw [if_pos rfl]
        funext q
        unfold updN
        split
        · rename_i hq; rw [hq, hx]
        · rfl
      · rw [if_neg h]
    rw [this]
  rw [e]; exact h
/-- one person's turn -/
theorem s_person {A : AT} {T : Tw} {b p : Nat} {x : Int32} {dry : Nat → Bool} (h : rT A T) (hA : okA b A) (hb : b < 1000000) (hd : dryOf x dry) (hp : p < A.1 4) (K34 : Tw → Option Tw) : ∃ T', rT (stP dry p A) T' ∧ ∀ k : Int32 → Tw → Option Tw, f_X5_liveMonth_2 x (nI p) T k K34 = k (nI (p + 1)) T' := by
  have hp6 : p < 6 := Nat.lt_of_lt_of_le hp hA.2.2.2.2.1
  have c4 := h.1 4 (by omega)
  have a4 := hA.2.2.2.2.1
  obtain ⟨k0, k1, k2⟩ := hA.2.2.2.2.2.2.2.1 p hp
  have e0 := h.2.1 0 (by omega) p hp
  have e2 := h.2.1 2 (by omega) p hp
  have eb := s_hasBit hd hp6
  have start : ∀ k : Int32 → Tw → Option Tw, f_X5_liveMonth_2 x (nI p) T k K34 = (if (if dry p then (1 : Int32) else 0) = 0 then bn (f_X5_takeMeans (nI p) T) fun r20 => f_X5_liveMonth_23 x (nI p) r20 k else f_X5_liveMonth_23 x (nI p) T k) := by
    intro k
    unfold f_X5_liveMonth_2
    simp (disch := omega) only [c4, leN]
    rw [if_neg (by omega), eb]
    rfl
  unfold stP
  by_cases hdr : dry p = true
  · have hpu : purseN true (A.2 0 p) (A.2 1 p) (A.1 2) (A.2 2 p) = A.2 2 p := by unfold purseN; simp; omega
    rw [hdr, hpu]
    obtain ⟨T', hT', rfl⟩ := s_spendHalf (T := T) (pu := A.2 2 p) hp6 e0 e2 k0 k2
    refine ⟨_, rT_setA h, fun k => ?_⟩
    rw [start k, hdr]
    simp only [if_true]
    rw [if_neg (by decide)]
    unfold f_X5_liveMonth_23
    rw [hT']
    simp only [bn_s, lett_d, litI, nI_add]
  · have hdf : dry p = false := by cases hq : dry p <;> simp_all
    have et := s_takeMeans h hA hb hp
    rw [hdf]
    generalize hpn : purseN false (A.2 0 p) (A.2 1 p) (A.1 2) (A.2 2 p) = pn at *
    have hpn9 : pn ≤ 9999 := by rw [← hpn]; exact purseN_le
    have r1 : rT (setA A 2 p pn) (T.1, va_up T.2 2 (upd (T.2 2) p (nI pn))) := rT_setA h
    have e01 : (T.1, va_up T.2 2 (upd (T.2 2) p (nI pn))).2 0 p = nI ((setA A 2 p pn).2 0 p) := r1.2.1 0 (by omega) p hp
    have e21 : (T.1, va_up T.2 2 (upd (T.2 2) p (nI pn))).2 2 p = nI pn := by have := r1.2.1 2 (by omega) p hp; rw [this, setA_same]
    obtain ⟨T', hT', hTe⟩ := s_spendHalf (A := setA A 2 p pn) (pu := pn) hp6 e01 e21 (by rw [setA_j (by omega)]; exact k0) hpn9
    have e0' : (setA A 2 p pn).2 0 p = A.2 0 p := by rw [setA_j (by omega)]
    have es : setA (setA A 2 p pn) 2 p (spendN (A.2 0 p) pn) = setA A 2 p (spendN (A.2 0 p) pn) := by
      unfold setA
      congr 1
      funext i
      by_cases hi : i = 2
      · subst hi
        simp only [if_true]
        funext q
        unfold updN
        split <;> rfl
      · simp only [if_neg hi]
    refine ⟨T', ?_, fun k => ?_⟩
    · have hq := rT_setA (j := 2) (k := p) (x := spendN ((setA A 2 p pn).2 0 p) pn) r1
      rw [hTe]
      rw [e0', es] at hq
      rw [e0']
      exact hq
    · rw [start k, hdf]
      simp only [Bool.false_eq_true, if_false, if_true]
      rw [et]
      simp only [bn_s]
      unfold f_X5_liveMonth_23
      rw [hT']
      simp only [bn_s, lett_d, litI, nI_add]
theorem foldN_1 {f : Nat → AT → AT} {A : AT} {k : Nat} (hf : ∀ i X, (f i X).1 k = X.1 k) : ∀ n, (foldN f n A).1 k = A.1 k
  | 0 => rfl
  | n + 1 => by show (f n (foldN f n A)).1 k = _; rw [hf, foldN_1 hf n]
theorem okA_fold_stP {b : Nat} {dry : Nat → Bool} {A : AT} (hA : okA b A) (n : Nat) : okA b (foldN (stP dry) n A) := foldN_inv (fun _ X => okA b X) hA n (fun _ _ _ h => okA_stP h)
theorem s_people {A : AT} {T : Tw} {b : Nat} {x : Int32} {dry : Nat → Bool} (h : rT A T) (hA : okA b A) (hb : b < 1000000) (hd : dryOf x dry) {P : Option Tw → Prop} {K34 : Tw → Option Tw} (hK : ∀ T', rT (peopleN dry A) T' → P (K34 T')) : P (l_X5_liveMonth_2 x K34 FU (nI 0) T) := by
  unfold l_X5_liveMonth_2
  have a4 := hA.2.2.2.2.1
  refine itr_rel (fun i z => ∃ T', z = (nI i, T') ∧ rT (foldN (stP dry) i A) T') P (A.1 4) ?_ FU 0 _ ⟨T, rfl, h⟩ (Nat.zero_le _) (by rw [FU_d]; omega)
  rintro i z hi ⟨T', rfl, hT⟩
  have e4 : (foldN (stP dry) i A).1 4 = A.1 4 := foldN_1 (f := stP dry) (fun _ _ => rfl) i
  by_cases hlt : i < A.1 4
  · left
    obtain ⟨T2, h2, hk⟩ := s_person hT (okA_fold_stP hA i) hb hd (by rw [e4]; exact hlt) K34
    exact ⟨hlt, (nI (i + 1), T2), ⟨T2, rfl, h2⟩, fun k => hk _⟩
  · right
    have e : i = A.1 4 := by omega
    subst e
    refine ⟨K34 T', hK T' hT, fun k => ?_⟩
    unfold f_X5_liveMonth_2
    have c4 := hT.1 4 (by omega)
    simp (disch := omega) only [c4, e4, leN]
    rw [if_pos (Nat.le_refl _)]
theorem giveN_no {l : Nat} {A : AT} (h : ¬ A.2 6 l = 0) : giveN l A = A := by unfold giveN; rw [if_neg h]
theorem payN_no {l : Nat} {A : AT} (h : ¬ A.2 6 l = 3) : payN l A = A := by unfold payN; rw [if_neg h]
theorem okA_fold_give {b : Nat} {A : AT} (hA : okA b A) (n : Nat) (hn : n ≤ A.1 5) : okA b (foldN giveN n A) ∧ (foldN giveN n A).1 5 = A.1 5 :=
  foldN_inv (fun _ X => okA b X ∧ X.1 5 = A.1 5) ⟨hA, rfl⟩ n (fun i X hi h => ⟨okA_giveN h.1 (by rw [h.2]; omega), by rw [giveN_1 (by omega)]; exact h.2⟩)
theorem okA_fold_pay {b : Nat} {A : AT} (hA : okA b A) (n : Nat) : okA (b + n) (foldN payN n A) ∧ (foldN payN n A).1 5 = A.1 5 :=
  foldN_inv (fun i X => okA (b + i) X ∧ X.1 5 = A.1 5) ⟨hA, rfl⟩ n (fun i X hi h => ⟨okA_payN h.1, by rw [payN_1 (by omega) (by omega)]; exact h.2⟩)
theorem s_gives {A : AT} {T : Tw} {b : Nat} (h : rT A T) (hA : okA b A) {P : Option Tw → Prop} {K64 : Tw → Option Tw} (hK : ∀ T', rT (givesN A) T' → P (K64 T')) : P (l_X5_liveMonth_36 K64 FU (nI 0) T) := by
  unfold l_X5_liveMonth_36
  have a5 := hA.2.2.2.2.2.1
  refine itr_rel (fun i z => ∃ T', z = (nI i, T') ∧ rT (foldN giveN i A) T') P (A.1 5) ?_ FU 0 _ ⟨T, rfl, h⟩ (Nat.zero_le _) (by rw [FU_d]; omega)
  rintro i z hi ⟨T', rfl, hT⟩
  obtain ⟨okX, e5⟩ := okA_fold_give hA i hi
  have c5 := hT.1 5 (by omega)
  by_cases hlt : i < A.1 5
  · left
    have hl : i < (foldN giveN i A).1 5 := by rw [e5]; exact hlt
    have e6 := hT.2.2.1 6 (by omega) (by omega) i hl
    obtain ⟨l1, l2, l3, l4, l5, l6, l7, l8⟩ := okX.2.2.2.2.2.2.2.2.1 i hl
    refine ⟨hlt, ?_⟩
    have start : ∀ k : Int32 → Tw → Option Tw, f_X5_liveMonth_36 (nI i) T' k K64 = (if (foldN giveN i A).2 6 i = 0 then bn (f_X5_giveOrStop (nI i) T') fun r55 => f_X5_liveMonth_58 (nI i) r55 k else f_X5_liveMonth_58 (nI i) T' k) := by
      intro k
      unfold f_X5_liveMonth_36
      simp (disch := omega) only [c5, e5, leN, gi_n, clN, e6, litI, eqN]
      rw [if_neg (by omega)]
    by_cases hs : (foldN giveN i A).2 6 i = 0
    · obtain ⟨T2, h2, r2⟩ := s_giveOrStop hT okX hl hs
      refine ⟨(nI (i + 1), T2), ⟨T2, rfl, r2⟩, fun k => ?_⟩
      show f_X5_liveMonth_36 (nI i) T' _ K64 = _
      rw [start, if_pos hs, h2]
      simp only [bn_s, f_X5_liveMonth_58, lett_d, litI, nI_add]
    · refine ⟨(nI (i + 1), T'), ⟨T', rfl, ?_⟩, fun k => ?_⟩
      · show rT (giveN i (foldN giveN i A)) T'
        rw [giveN_no hs]
        exact hT
      · show f_X5_liveMonth_36 (nI i) T' _ K64 = _
        rw [start, if_neg hs]
        simp only [f_X5_liveMonth_58, lett_d, litI, nI_add]
  · right
    have e : i = A.1 5 := by omega
    subst e
    refine ⟨K64 T', hK T' hT, fun k => ?_⟩
    unfold f_X5_liveMonth_36
    simp (disch := omega) only [c5, e5, leN]
    rw [if_pos (Nat.le_refl _)]
theorem s_pays {A : AT} {T : Tw} {b : Nat} (h : rT A T) (hA : okA b A) (hb : b + 8 < 1000000) {P : Option Tw → Prop} {K95 : Tw → Option Tw} (hK : ∀ T', rT (paysN A) T' → P (K95 T')) : P (l_X5_liveMonth_66 K95 FU (nI 0) T) := by
  unfold l_X5_liveMonth_66
  have a5 := hA.2.2.2.2.2.1
  refine itr_rel (fun i z => ∃ T', z = (nI i, T') ∧ rT (foldN payN i A) T') P (A.1 5) ?_ FU 0 _ ⟨T, rfl, h⟩ (Nat.zero_le _) (by rw [FU_d]; omega)
  rintro i z hi ⟨T', rfl, hT⟩
  obtain ⟨okX, e5⟩ := okA_fold_pay hA i
  have c5 := hT.1 5 (by omega)
  by_cases hlt : i < A.1 5
  · left
    have hl : i < (foldN payN i A).1 5 := by rw [e5]; exact hlt
    have e6 := hT.2.2.1 6 (by omega) (by omega) i hl
    obtain ⟨l1, l2, l3, l4, l5, l6, l7, l8⟩ := okX.2.2.2.2.2.2.2.2.1 i hl
    refine ⟨hlt, ?_⟩
    have start : ∀ k : Int32 → Tw → Option Tw, f_X5_liveMonth_66 (nI i) T' k K95 = (if (foldN payN i A).2 6 i = 3 then bn (f_X5_payOrLack (nI i) T') fun r86 => f_X5_liveMonth_89 (nI i) r86 k else f_X5_liveMonth_89 (nI i) T' k) := by
      intro k
      unfold f_X5_liveMonth_66
      simp (disch := omega) only [c5, e5, leN, gi_n, clN, e6, litI, eqN]
      rw [if_neg (by omega)]
    by_cases hs : (foldN payN i A).2 6 i = 3
    · obtain ⟨T2, h2, r2⟩ := s_payOrLack hT okX (by omega) hl hs
      refine ⟨(nI (i + 1), T2), ⟨T2, rfl, r2⟩, fun k => ?_⟩
      show f_X5_liveMonth_66 (nI i) T' _ K95 = _
      rw [start, if_pos hs, h2]
      simp only [bn_s, f_X5_liveMonth_89, lett_d, litI, nI_add]
    · refine ⟨(nI (i + 1), T'), ⟨T', rfl, ?_⟩, fun k => ?_⟩
      · show rT (payN i (foldN payN i A)) T'
        rw [payN_no hs]
        exact hT
      · show f_X5_liveMonth_66 (nI i) T' _ K95 = _
        rw [start, if_neg hs]
        simp only [f_X5_liveMonth_89, lett_d, litI, nI_add]
  · right
    have e : i = A.1 5 := by omega
    subst e
    refine ⟨K95 T', hK T' hT, fun k => ?_⟩
    unfold f_X5_liveMonth_66
    simp (disch := omega) only [c5, e5, leN]
    rw [if_pos (Nat.le_refl _)]
theorem okA_people {b : Nat} {dry : Nat → Bool} {A : AT} (hA : okA b A) : okA b (peopleN dry A) := okA_fold_stP hA _
theorem peopleN_1 {dry : Nat → Bool} {A : AT} : (peopleN dry A).1 = A.1 := by
  funext k
  exact foldN_1 (f := stP dry) (fun _ _ => rfl) _
theorem okA_gives {b : Nat} {A : AT} (hA : okA b A) : okA b (givesN A) := (okA_fold_give hA _ (Nat.le_refl _)).1
theorem givesN_1 {A : AT} {k : Nat} (hk : k ≠ 0) : (givesN A).1 k = A.1 k := foldN_1 (fun _ _ => giveN_1 hk) _
theorem paysN_1 {A : AT} {k : Nat} (hk : k ≠ 0) (hk3 : k ≠ 3) : (paysN A).1 k = A.1 k := foldN_1 (fun _ _ => payN_1 hk hk3) _
theorem okA_pays {b : Nat} {A : AT} (hA : okA b A) : okA (b + 8) (paysN A) := okA_mono (okA_fold_pay hA _).1 (by have := hA.2.2.2.2.2.1; omega)
theorem okA_monthN {b : Nat} {dry : Nat → Bool} {A : AT} (hA : okA b A) : okA (b + 8) (monthN dry A) := okA_month (okA_pays (okA_gives (okA_people hA))) (by have := hA.2.2.1; omega)
/-- A MONTH of the class -/
theorem s_liveMonth {A : AT} {T : Tw} {b : Nat} {x : Int32} {dry : Nat → Bool} (h : rT A T) (hA : okA b A) (hb : b + 8 < 1000000) (hd : dryOf x dry) : ok (fun T' => rT (monthN dry A) T') (f_X5_liveMonth x T) := by
  unfold f_X5_liveMonth
  refine ok_lett (fun x2 hx2 => ?_)
  rw [hx2, litI]
  refine s_people h hA (by omega) hd (fun T1 h1 => ?_)
  unfold f_X5_liveMonth_34
  refine ok_lett (fun x2 hx2 => ?_)
  rw [hx2, litI]
  refine s_gives h1 (okA_people hA) (fun T2 h2 => ?_)
  unfold f_X5_liveMonth_64
  refine ok_lett (fun x2 hx2 => ?_)
  rw [hx2, litI]
  refine s_pays h2 (okA_gives (okA_people hA)) hb (fun T3 h3 => ?_)
  unfold f_X5_liveMonth_95
  refine ok_lett (fun T4 h4 => ok_s ?_)
  have c2 := h3.1 2 (by omega)
  have e2 : (paysN (givesN (peopleN dry A))).1 2 = A.1 2 := by rw [paysN_1 (by omega) (by omega), givesN_1 (by omega), peopleN_1]
  rw [h4, c2, litI, nI_add, e2]
  exact rT_setS h3 (by omega)
