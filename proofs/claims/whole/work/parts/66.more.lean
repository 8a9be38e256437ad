/-! PURE: with more in the chest all goes the same way. -/
def addC (A : AT) (d : Nat) : AT := setS A 0 (A.1 0 + d)
theorem setS_setS {A : AT} {k x y : Nat} : setS (setS A k x) k y = setS A k y := by
  unfold setS updN
  have e : (fun j => if j = k then y else if j = k then x else A.1 j) = (fun j => if j = k then y else A.1 j) := by
    funext j
    by_cases q : j = k
    · rw [if_pos q, if_pos q]
    · rw [if_neg q, if_neg q, if_neg q]
  show ((fun j => if j = k then y else if j = k then x else A.1 j), A.2) = _
  rw [e]
theorem setS_comm {A : AT} {k x k' y : Nat} (h : k ≠ k') : setS (setS A k x) k' y = setS (setS A k' y) k x := by
  unfold setS updN
  have e : (fun j => if j = k' then y else if j = k then x else A.1 j) = (fun j => if j = k then x else if j = k' then y else A.1 j) := by
    funext j
    by_cases q : j = k
    · rw [if_pos q, if_pos q, if_neg (by omega)]
    · rw [if_neg q, if_neg q]
  show ((fun j => if j = k' then y else if j = k then x else A.1 j), A.2) = _
  rw [e]
theorem setS_setA {A : AT} {k x j q y : Nat} : setS (setA A j q y) k x = setA (setS A k x) j q y := rfl
theorem addC_0 {A : AT} {d : Nat} : (addC A d).1 0 = A.1 0 + d := setS_same
theorem addC_k {A : AT} {d k : Nat} (h : k ≠ 0) : (addC A d).1 k = A.1 k := setS_k h
theorem addC_2 {A : AT} {d : Nat} : (addC A d).2 = A.2 := rfl
def potN (A : AT) : Nat → Nat
  | 0 => 0
  | n + 1 => potN A n + A.2 4 n * (A.2 5 n - A.2 7 n)
theorem potN_same {A A' : AT} (h4 : A'.2 4 = A.2 4) (h5 : A'.2 5 = A.2 5) (h7 : A'.2 7 = A.2 7) : ∀ n, potN A' n = potN A n
  | 0 => rfl
  | n + 1 => by show potN A' n + A'.2 4 n * (A'.2 5 n - A'.2 7 n) = _; rw [potN_same h4 h5 h7 n, h4, h5, h7]; rfl
theorem potN_ge {A : AT} {l : Nat} (hl : A.2 7 l < A.2 5 l) : ∀ n, l < n → A.2 4 l ≤ potN A n
  | 0, h => absurd h (Nat.not_lt_zero _)
  | n + 1, h => by
    show A.2 4 l ≤ potN A n + A.2 4 n * (A.2 5 n - A.2 7 n)
    by_cases e : l = n
    · subst e
      have : A.2 4 l * 1 ≤ A.2 4 l * (A.2 5 l - A.2 7 l) := Nat.mul_le_mul_left _ (by omega)
      omega
    · exact Nat.le_trans (potN_ge hl n (by omega)) (Nat.le_add_right _ _)
theorem potN_give {A : AT} {l : Nat} (hl : A.2 7 l < A.2 5 l) : ∀ n, potN (setA A 7 l (A.2 7 l + 1)) n + (if l < n then A.2 4 l else 0) = potN A n
  | 0 => rfl
  | n + 1 => by
    have ih := potN_give hl n
    have e4 : (setA A 7 l (A.2 7 l + 1)).2 4 = A.2 4 := setA_j (by omega)
    have e5 : (setA A 7 l (A.2 7 l + 1)).2 5 = A.2 5 := setA_j (by omega)
    show potN (setA A 7 l (A.2 7 l + 1)) n + (setA A 7 l (A.2 7 l + 1)).2 4 n * ((setA A 7 l (A.2 7 l + 1)).2 5 n - (setA A 7 l (A.2 7 l + 1)).2 7 n) + _ = potN A n + A.2 4 n * (A.2 5 n - A.2 7 n)
    rw [e4, e5]
    by_cases e : n = l
    · subst e
      rw [setA_same, if_pos (by omega)]
      rw [if_neg (by omega)] at ih
      have m : A.2 4 n * (A.2 5 n - A.2 7 n) = A.2 4 n * (A.2 5 n - (A.2 7 n + 1)) + A.2 4 n := by
        rw [← Nat.mul_succ]
        exact congrArg _ (by omega)
      rw [m]
      omega
    · rw [setA_k e]
      by_cases q : l < n
      · rw [if_pos q] at ih
        rw [if_pos (by omega)]
        omega
      · rw [if_neg q] at ih
        rw [if_neg (by omega)]
        omega
theorem potN_le {A : AT} {b : Nat} (oa : okA b A) : ∀ n, n ≤ A.1 5 → potN A n ≤ 1188 * n
  | 0, _ => Nat.le_refl _
  | n + 1, h => by
    have ih := potN_le oa n (by omega)
    obtain ⟨l1, l2, l3, l4, l5, l6, l7, l8⟩ := oa.2.2.2.2.2.2.2.2.1 n (by omega)
    have := pg_le l3 (show A.2 5 n - A.2 7 n ≤ 12 by omega)
    show potN A n + A.2 4 n * (A.2 5 n - A.2 7 n) ≤ _
    omega
theorem give_add {A : AT} {b l d : Nat} (oa : okA b A) (hl : l < A.1 5) (hd : A.1 0 + potN A (A.1 5) + d ≤ 99999) : giveN l (addC A d) = addC (giveN l A) d ∧ (giveN l A).1 0 + potN (giveN l A) (A.1 5) ≤ A.1 0 + potN A (A.1 5) := by
  obtain ⟨l1, l2, l3, l4, l5, l6, l7, l8⟩ := oa.2.2.2.2.2.2.2.2.1 l hl
  have eg : giveN l (addC A d) = (if A.2 6 l = 0 then (if A.2 2 (A.2 3 l) < needN A l then setA (addC A d) 6 l 2 else (if A.2 7 l + 1 = A.2 5 l then setA (setA (setS (setA (addC A d) 2 (A.2 3 l) (A.2 2 (A.2 3 l) - A.2 4 l)) 0 (min 99999 ((addC A d).1 0 + A.2 4 l))) 7 l (A.2 7 l + 1)) 6 l 3 else setA (setS (setA (addC A d) 2 (A.2 3 l) (A.2 2 (A.2 3 l) - A.2 4 l)) 0 (min 99999 ((addC A d).1 0 + A.2 4 l))) 7 l (A.2 7 l + 1))) else addC A d) := rfl
  rw [eg]
  unfold giveN
  by_cases h0 : A.2 6 l = 0
  · simp only [if_pos h0]
    by_cases h1 : A.2 2 (A.2 3 l) < needN A l
    · simp only [if_pos h1]
      refine ⟨rfl, ?_⟩
      rw [potN_same (A := A) (setA_j (by omega)) (setA_j (by omega)) (setA_j (by omega))]
      exact Nat.le_refl _
    · simp only [if_neg h1]
      have hg := l8 h0
      have hp := potN_ge hg (A.1 5) hl
      have e0 : min 99999 ((addC A d).1 0 + A.2 4 l) = min 99999 (A.1 0 + A.2 4 l) + d := by rw [addC_0]; omega
      have pg := potN_give hg (A.1 5)
      rw [if_pos hl] at pg
      have key : setS (setA (addC A d) 2 (A.2 3 l) (A.2 2 (A.2 3 l) - A.2 4 l)) 0 (min 99999 ((addC A d).1 0 + A.2 4 l)) = addC (setS (setA A 2 (A.2 3 l) (A.2 2 (A.2 3 l) - A.2 4 l)) 0 (min 99999 (A.1 0 + A.2 4 l))) d := by
        rw [e0]
        unfold addC
        rw [setS_same, setS_setA, setS_setS, setS_setA, setS_setA, setS_setS]
      have c0 : (setS (setA A 2 (A.2 3 l) (A.2 2 (A.2 3 l) - A.2 4 l)) 0 (min 99999 (A.1 0 + A.2 4 l))).1 0 = min 99999 (A.1 0 + A.2 4 l) := setS_same
      by_cases h2 : A.2 7 l + 1 = A.2 5 l
      · simp only [if_pos h2]
        rw [key]
        refine ⟨rfl, ?_⟩
        show min 99999 (A.1 0 + A.2 4 l) + _ ≤ _
        have ep : potN (setA (setA (setS (setA A 2 (A.2 3 l) (A.2 2 (A.2 3 l) - A.2 4 l)) 0 (min 99999 (A.1 0 + A.2 4 l))) 7 l (A.2 7 l + 1)) 6 l 3) (A.1 5) = potN (setA A 7 l (A.2 7 l + 1)) (A.1 5) := by
          refine potN_same ?_ ?_ ?_ _
          · rw [setA_j (by omega), setA_j (by omega), setS_2, setA_j (by omega), setA_j (by omega)]
          · rw [setA_j (by omega), setA_j (by omega), setS_2, setA_j (by omega), setA_j (by omega)]
          · rw [setA_j (by omega)]
            funext q
            by_cases e : q = l
            · subst e; rw [setA_same, setA_same]
            · rw [setA_k e, setA_k e, setS_2, setA_j (by omega)]
        rw [ep]
        omega
      · simp only [if_neg h2]
        rw [key]
        refine ⟨rfl, ?_⟩
        show min 99999 (A.1 0 + A.2 4 l) + _ ≤ _
        have ep : potN (setA (setS (setA A 2 (A.2 3 l) (A.2 2 (A.2 3 l) - A.2 4 l)) 0 (min 99999 (A.1 0 + A.2 4 l))) 7 l (A.2 7 l + 1)) (A.1 5) = potN (setA A 7 l (A.2 7 l + 1)) (A.1 5) := by
          refine potN_same ?_ ?_ ?_ _
          · rw [setA_j (by omega), setS_2, setA_j (by omega), setA_j (by omega)]
          · rw [setA_j (by omega), setS_2, setA_j (by omega), setA_j (by omega)]
          · funext q
            by_cases e : q = l
            · subst e; rw [setA_same, setA_same]
            · rw [setA_k e, setA_k e, setS_2, setA_j (by omega)]
        rw [ep]
        omega
  · simp only [if_neg h0]
    exact ⟨trivial, Nat.le_refl _⟩
theorem pay_add {A : AT} {l d n : Nat} (h3 : (payN l A).1 3 = A.1 3) : payN l (addC A d) = addC (payN l A) d ∧ (payN l A).1 0 + potN (payN l A) n ≤ A.1 0 + potN A n := by
  have eg : payN l (addC A d) = (if A.2 6 l = 3 then (if (addC A d).1 0 < wholeN A l then setS (addC A d) 3 ((addC A d).1 3 + 1) else setA (setA (setS (addC A d) 0 ((addC A d).1 0 - wholeN A l)) 2 (A.2 3 l) (min 9999 (A.2 2 (A.2 3 l) + wholeN A l))) 6 l 1) else addC A d) := rfl
  rw [eg]
  unfold payN at h3 ⊢
  by_cases h0 : A.2 6 l = 3
  · simp only [if_pos h0] at h3 ⊢
    by_cases h1 : A.1 0 < wholeN A l
    · rw [if_pos h1, setS_same] at h3
      omega
    · rw [if_neg (show ¬ (addC A d).1 0 < wholeN A l by rw [addC_0]; omega), if_neg h1]
      refine ⟨?_, ?_⟩
      · have e0 : (addC A d).1 0 - wholeN A l = A.1 0 - wholeN A l + d := by rw [addC_0]; omega
        rw [e0]
        show setA (setA (setS (addC A d) 0 (A.1 0 - wholeN A l + d)) 2 (A.2 3 l) _) 6 l 1 = setS (setA (setA (setS A 0 (A.1 0 - wholeN A l)) 2 (A.2 3 l) _) 6 l 1) 0 ((setS A 0 (A.1 0 - wholeN A l)).1 0 + d)
        rw [setS_same, setS_setA, setS_setA, setS_setS]
        unfold addC
        rw [setS_setS]
      · rw [potN_same (A := A) (by rw [setA_j (by omega), setA_j (by omega), setS_2]) (by rw [setA_j (by omega), setA_j (by omega), setS_2]) (by rw [setA_j (by omega), setA_j (by omega), setS_2])]
        show (setS A 0 (A.1 0 - wholeN A l)).1 0 + _ ≤ _
        rw [setS_same]
        omega
  · simp only [if_neg h0]
    exact ⟨trivial, Nat.le_refl _⟩
theorem stP_add {dry : Nat → Bool} {A : AT} {p d : Nat} : stP dry p (addC A d) = addC (stP dry p A) d := rfl
theorem people_add {dry : Nat → Bool} {A : AT} {d : Nat} : peopleN dry (addC A d) = addC (peopleN dry A) d := by
  have key : ∀ n, foldN (stP dry) n (addC A d) = addC (foldN (stP dry) n A) d := by
    intro n
    induction n with
    | zero => rfl
    | succ n ih => show stP dry n (foldN (stP dry) n (addC A d)) = _; rw [ih, stP_add]; rfl
  exact key _
theorem gives_add {A : AT} {b d : Nat} (oa : okA b A) (hd : A.1 0 + potN A (A.1 5) + d ≤ 99999) : givesN (addC A d) = addC (givesN A) d ∧ (givesN A).1 0 + potN (givesN A) (A.1 5) ≤ A.1 0 + potN A (A.1 5) := by
  have key : ∀ n, n ≤ A.1 5 → foldN giveN n (addC A d) = addC (foldN giveN n A) d ∧ (foldN giveN n A).1 0 + potN (foldN giveN n A) (A.1 5) ≤ A.1 0 + potN A (A.1 5) := by
    intro n
    induction n with
    | zero => intro _; exact ⟨rfl, Nat.le_refl _⟩
    | succ n ih =>
      intro hn
      obtain ⟨i1, i2⟩ := ih (by omega)
      obtain ⟨ok, e5⟩ := okA_fold_give oa n (by omega)
      have := give_add (l := n) (d := d) ok (by omega) (by rw [e5]; omega)
      rw [e5] at this
      refine ⟨?_, Nat.le_trans this.2 i2⟩
      show giveN n (foldN giveN n (addC A d)) = _
      rw [i1, this.1]
      rfl
  exact key _ (Nat.le_refl _)
theorem pays_add {A : AT} {d m : Nat} (h3 : (paysN A).1 3 = A.1 3) : paysN (addC A d) = addC (paysN A) d ∧ (paysN A).1 0 + potN (paysN A) m ≤ A.1 0 + potN A m := by
  have up : ∀ n k, (foldN payN n A).1 3 ≤ (foldN payN (n + k) A).1 3 := by
    intro n k
    induction k with
    | zero => exact Nat.le_refl _
    | succ k ih => exact Nat.le_trans ih payN_3
  have same : ∀ n, n ≤ A.1 5 → (foldN payN n A).1 3 = A.1 3 := by
    intro n hn
    have u1 := foldpay_3 (A := A) n
    have u2 := up n (A.1 5 - n)
    rw [show n + (A.1 5 - n) = A.1 5 by omega] at u2
    have u3 : (foldN payN (A.1 5) A).1 3 = A.1 3 := h3
    omega
  have key : ∀ n, n ≤ A.1 5 → foldN payN n (addC A d) = addC (foldN payN n A) d ∧ (foldN payN n A).1 0 + potN (foldN payN n A) m ≤ A.1 0 + potN A m := by
    intro n
    induction n with
    | zero => intro _; exact ⟨rfl, Nat.le_refl _⟩
    | succ n ih =>
      intro hn
      obtain ⟨i1, i2⟩ := ih (by omega)
      have s1 := same n (by omega)
      have s2 := same (n + 1) hn
      have := pay_add (A := foldN payN n A) (l := n) (d := d) (n := m) (show (payN n (foldN payN n A)).1 3 = _ by rw [s1]; exact s2)
      refine ⟨?_, Nat.le_trans this.2 i2⟩
      show payN n (foldN payN n (addC A d)) = _
      rw [i1, this.1]
      rfl
  exact key _ (Nat.le_refl _)
theorem month_add {A : AT} {b d : Nat} (oa : okA b A) (hd : A.1 0 + potN A (A.1 5) + d ≤ 99999) (h3 : (monthN dry0 A).1 3 = A.1 3) : monthN dry0 (addC A d) = addC (monthN dry0 A) d ∧ (monthN dry0 A).1 0 + potN (monthN dry0 A) (A.1 5) ≤ A.1 0 + potN A (A.1 5) := by
  have p1 : (peopleN dry0 A).1 = A.1 := peopleN_1
  have pot1 : ∀ n, potN (peopleN dry0 A) n = potN A n := potN_same (foldN_2 (f := stP dry0) (fun _ _ => setA_j (by omega)) _) (foldN_2 (f := stP dry0) (fun _ _ => setA_j (by omega)) _) (foldN_2 (f := stP dry0) (fun _ _ => setA_j (by omega)) _)
  have g := gives_add (A := peopleN dry0 A) (d := d) (okA_people oa) (by rw [p1, pot1]; exact hd)
  rw [p1, pot1] at g
  have e3 : (paysN (givesN (peopleN dry0 A))).1 3 = (givesN (peopleN dry0 A)).1 3 := by
    have a : (monthN dry0 A).1 3 = (paysN (givesN (peopleN dry0 A))).1 3 := setS_k (by omega)
    rw [← a, h3, givesN_1 (by omega), p1]
  have q := pays_add (d := d) (m := A.1 5) e3
  refine ⟨?_, ?_⟩
  · unfold monthN
    rw [people_add, g.1, q.1, addC_k (by omega)]
    unfold addC
    rw [setS_k (k := 2) (k' := 0) (by omega), setS_comm (by omega)]
  · show (setS (paysN (givesN (peopleN dry0 A))) 2 (A.1 2 + 1)).1 0 + potN (setS (paysN (givesN (peopleN dry0 A))) 2 (A.1 2 + 1)) (A.1 5) ≤ _
    rw [setS_k (by omega), potN_same (A := paysN (givesN (peopleN dry0 A))) (A' := setS (paysN (givesN (peopleN dry0 A))) 2 (A.1 2 + 1)) rfl rfl rfl]
    exact Nat.le_trans q.2 g.2
theorem ahead_up {A : AT} : ∀ n k, (aheadN n A).1 3 ≤ (aheadN (n + k) A).1 3
  | _, 0 => Nat.le_refl _
  | n, k + 1 => Nat.le_trans (ahead_up n k) month_3
theorem ahead_add {A : AT} {b d : Nat} (oa : okA b A) (hd : A.1 0 + potN A (A.1 5) + d ≤ 99999) : ∀ m, (aheadN m A).1 3 = A.1 3 → aheadN m (addC A d) = addC (aheadN m A) d ∧ (aheadN m A).1 0 + potN (aheadN m A) (A.1 5) ≤ A.1 0 + potN A (A.1 5)
  | 0, _ => ⟨rfl, Nat.le_refl _⟩
  | m + 1, h3 => by
    have u1 := ahead_up (A := A) m 1
    have u0 := ahead_up (A := A) 0 m
    rw [Nat.zero_add] at u0
    have u0' : A.1 3 ≤ (aheadN m A).1 3 := u0
    have h3m : (aheadN m A).1 3 = A.1 3 := by omega
    obtain ⟨i1, i2⟩ := ahead_add oa hd m h3m
    have e5 : (aheadN m A).1 5 = A.1 5 := aheadN_1 (by omega) (by omega) (by omega) m
    have q := month_add (A := aheadN m A) (d := d) (okA_ahead oa m) (by rw [e5]; omega) (by rw [h3m]; exact h3)
    rw [e5] at q
    refine ⟨?_, Nat.le_trans q.2 i2⟩
    show monthN dry0 (aheadN m (addC A d)) = _
    rw [i1, q.1]
    rfl
/-- m months are got through, with c in the chest -/
def holdN (A : AT) (m c : Nat) : Prop := (aheadN m (setS A 0 c)).1 3 = A.1 3
theorem hold_mono {A : AT} {b m c c' : Nat} (oa : okA b A) (h : holdN A m c) (hc : c ≤ c') (hm : c' ≤ 9999) : holdN A m c' := by
  have oc : okA b (setS A 0 c) := okA_chest oa (by omega)
  have a5 := oa.2.2.2.2.2.1
  have pl := potN_le oc (A.1 5) (Nat.le_refl _)
  have e : setS A 0 c' = addC (setS A 0 c) (c' - c) := by
    unfold addC
    rw [setS_setS, setS_same]
    exact congrArg _ (by omega)
  have e0 : (setS A 0 c).1 0 = c := setS_same
  have e5 : (setS A 0 c).1 5 = A.1 5 := setS_k (by omega)
  have := ahead_add (d := c' - c) oc (by rw [e0, e5]; omega) m (by rw [setS_k (by omega)]; exact h)
  unfold holdN
  rw [e, this.1, addC_k (by omega)]
  exact h
