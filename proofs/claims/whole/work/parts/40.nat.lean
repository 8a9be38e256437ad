/-! PURE: the extracted functions, in natural numbers. Guards, loops, the two pictures of a town. -/
theorem gi_n {β : Type} {j n : Nat} {k : Option β} (h : j < n) (hn : n < 2147483648) : gi (nI j) n k = k := if_neg (vp_in_nI h (by omega))
theorem litI (n : Nat) : (OfNat.ofNat n : Int32) = nI n := rfl
theorem clN {j : Nat} (h : j < 2147483648) : (nI j).toNatClampNeg = j := nI_clamp (by omega)
theorem leN {a b : Nat} (ha : a < 2147483648) (hb : b < 2147483648) : (nI a ≤ nI b) = (a ≤ b) := propext (nI_leI (by omega) (by omega))
theorem ltN {a b : Nat} (ha : a < 2147483648) (hb : b < 2147483648) : (nI a < nI b) = (a < b) := propext (nI_ltI (by omega) (by omega))
theorem eqN {a b : Nat} (ha : a < 2147483648) (hb : b < 2147483648) : (nI a = nI b) = (a = b) := propext (nI_eq (by omega) (by omega))
theorem divN {a d : Nat} (ha : a < 2147483648) (h0 : 0 < d) (hd : d < 2147483648) : nI a / nI d = nI (a / d) := pk_div (by omega) h0 (by omega)
theorem subN {a b : Nat} (h : b ≤ a) : nI a - nI b = nI (a - b) := pk_sub h
theorem bn_s {α β : Type} (x : α) (k : α → Option β) : bn (some x) k = k x := rfl
theorem lett_d {α β : Type} (e : α) (k : α → β) : lett e k = k e := rfl
/-- an option that is there, with what holds of it -/
def ok {α : Type} (P : α → Prop) (r : Option α) : Prop := ∃ x, r = some x ∧ P x
theorem ok_s {α : Type} {P : α → Prop} {x : α} (h : P x) : ok P (some x) := ⟨x, rfl, h⟩
theorem ok_lett {α β : Type} {P : β → Prop} {e : α} {k : α → Option β} (h : ∀ x, x = e → ok P (k x)) : ok P (lett e k) := h e rfl
theorem ok_bn {α β : Type} {P : β → Prop} {S : α → Prop} {m : Option α} {k : α → Option β} (hm : ok S m) (h : ∀ x, S x → ok P (k x)) : ok P (bn m k) := by
  obtain ⟨x, rfl, hx⟩ := hm
  exact h x hx
theorem ok_ite {α : Type} {P : α → Prop} {c : Prop} [Decidable c] {a b : Option α} (h1 : c → ok P a) (h2 : ¬ c → ok P b) : ok P (if c then a else b) := by
  by_cases h : c
  · rw [if_pos h]; exact h1 h
  · rw [if_neg h]; exact h2 h
theorem ok_mono {α : Type} {P S : α → Prop} {r : Option α} (h : ok P r) (hS : ∀ x, P x → S x) : ok S r := by
  obtain ⟨x, rfl, hx⟩ := h
  exact ⟨x, rfl, hS x hx⟩
theorem ok_eq {α : Type} {P : α → Prop} {r : Option α} {x : α} (h : r = some x) (hx : P x) : ok P r := ⟨x, h, hx⟩
/-- a loop with a counter up to N: an invariant, left at the end or on the way -/
theorem itr_rel {σ β : Type} {B : (σ → Option β) → σ → Option β} (I : Nat → σ → Prop) (P : Option β → Prop) (N : Nat)
    (hs : ∀ i z, i ≤ N → I i z → (i < N ∧ ∃ z', I (i + 1) z' ∧ ∀ k, B k z = k z') ∨ (∃ r, P r ∧ ∀ k, B k z = r)) : ∀ (n i : Nat) (z : σ), I i z → i ≤ N → N - i < n → P (itr B n z) := by
  intro n
  induction n with
  | zero => intro i z _ _ h; exact absurd h (Nat.not_lt_zero _)
  | succ n ih =>
    intro i z hi hN hn
    rcases hs i z hN hi with ⟨hlt, z', hz', hB⟩ | ⟨r, hr, hB⟩
    · show P (B (itr B n) z)
      rw [hB]
      exact ih (i + 1) z' hz' hlt (by omega)
    · show P (B (itr B n) z)
      rw [hB]
      exact hr
/-- the same, of exact states -/
theorem itr_st {σ β : Type} {B : (σ → Option β) → σ → Option β} (st : Nat → σ) (R : Option β) (N : Nat) (h1 : ∀ i k, i < N → B k (st i) = k (st (i + 1))) (h2 : ∀ k, B k (st N) = R) : ∀ (n i : Nat), i ≤ N → N - i < n → itr B n (st i) = R := by
  intro n i hN hn
  refine itr_rel (fun i z => z = st i) (fun r => r = R) N ?_ n i (st i) rfl hN hn
  intro i z hi hz
  subst hz
  by_cases h : i < N
  · exact Or.inl ⟨h, st (i + 1), rfl, fun k => h1 i k h⟩
  · have e : i = N := by omega
    subst e
    exact Or.inr ⟨R, rfl, h2⟩
theorem FU_d : FU = 20000 := rfl
def updN (f : Nat → Nat) (k x : Nat) : Nat → Nat := fun j => if j = k then x else f j
/-- a town in natural numbers: 0 chest, 1 rate, 2 month, 3 lacks, 4 people, 5 loans, 6 offers; rows 0 kind, 1 means, 2 purse, 3 owner, 4 pence, 5 long, 6 state, 7 given, 8 and 9 an offer's pence and long -/
abbrev AT : Type := (Nat → Nat) × (Nat → Nat → Nat)
def setS (A : AT) (k x : Nat) : AT := (updN A.1 k x, A.2)
def setA (A : AT) (j k x : Nat) : AT := (A.1, fun i => if i = j then updN (A.2 j) k x else A.2 i)
/-- the class's town holds A -/
def rT (A : AT) (T : Tw) : Prop := (∀ k, k < 7 → T.1 k = nI (A.1 k)) ∧ (∀ j, j < 3 → ∀ p, p < A.1 4 → T.2 j p = nI (A.2 j p)) ∧ (∀ j, 3 ≤ j → j < 8 → ∀ l, l < A.1 5 → T.2 j l = nI (A.2 j l)) ∧ (∀ j, 8 ≤ j → j < 10 → ∀ o, o < A.1 6 → T.2 j o = nI (A.2 j o))
/-- where the model keeps the k-th number -/
def ixS (k : Nat) : Nat := if k = 3 then 6 else if 3 < k then k - 1 else k
/-- the model's row holds A; row 10 is what no town has: the model's past -/
def rM (A : AT) (t : Nat → Int32) : Prop := (A.1 4 ≤ 6 ∧ A.1 5 ≤ 8 ∧ A.1 6 ≤ 8) ∧ (∀ k, k < 7 → t (ixS k) = nI (A.1 k)) ∧ (∀ j, j < 3 → ∀ p, p < A.1 4 → t (8 + 3 * p + j) = nI (A.2 j p)) ∧ (∀ j, j < 5 → ∀ l, l < A.1 5 → t (26 + 5 * l + j) = nI (A.2 (3 + j) l)) ∧ (∀ j, j < 2 → ∀ o, o < A.1 6 → t (66 + 2 * o + j) = nI (A.2 (8 + j) o)) ∧ (∀ k, k = 7 ∨ 82 ≤ k → t k = nI (A.2 10 k))
/-- what every town keeps; b bounds months and lacks -/
def okA (b : Nat) (A : AT) : Prop := A.1 0 ≤ 99999 ∧ A.1 1 ≤ 50 ∧ A.1 2 ≤ b ∧ A.1 3 ≤ b ∧ A.1 4 ≤ 6 ∧ A.1 5 ≤ 8 ∧ A.1 6 ≤ 8 ∧ (∀ p, p < A.1 4 → A.2 0 p ≤ 5 ∧ A.2 1 p ≤ 99 ∧ A.2 2 p ≤ 9999) ∧ (∀ l, l < A.1 5 → A.2 3 l < A.1 4 ∧ 1 ≤ A.2 4 l ∧ A.2 4 l ≤ 99 ∧ 1 ≤ A.2 5 l ∧ A.2 5 l ≤ 12 ∧ A.2 6 l ≤ 4 ∧ A.2 7 l ≤ A.2 5 l ∧ (A.2 6 l = 0 → A.2 7 l < A.2 5 l)) ∧ (∀ o, o < A.1 6 → 1 ≤ A.2 8 o ∧ A.2 8 o ≤ 99 ∧ 1 ≤ A.2 9 o ∧ A.2 9 o ≤ 12)
theorem rT_setS {A : AT} {T : Tw} (h : rT A T) {k x : Nat} (hk : k < 4) : rT (setS A k x) (upd T.1 k (nI x), T.2) := by
  obtain ⟨h1, h2, h3, h4⟩ := h
  refine ⟨fun i hi => ?_, ?_, ?_, ?_⟩
  · show upd T.1 k (nI x) i = nI (updN A.1 k x i)
    unfold upd updN
    by_cases e : i = k
    · simp [e]
    · simp [e, h1 i hi]
  · have e : (setS A k x).1 4 = A.1 4 := by show updN A.1 k x 4 = _; unfold updN; rw [if_neg (by omega)]
    intro j hj p hp; exact h2 j hj p (by rw [e] at hp; exact hp)
  · have e : (setS A k x).1 5 = A.1 5 := by show updN A.1 k x 5 = _; unfold updN; rw [if_neg (by omega)]
    intro j hj hj2 p hp; exact h3 j hj hj2 p (by rw [e] at hp; exact hp)
  · have e : (setS A k x).1 6 = A.1 6 := by show updN A.1 k x 6 = _; unfold updN; rw [if_neg (by omega)]
    intro j hj hj2 p hp; exact h4 j hj hj2 p (by rw [e] at hp; exact hp)
theorem rT_setA {A : AT} {T : Tw} (h : rT A T) {j k x : Nat} : rT (setA A j k x) (T.1, va_up T.2 j (upd (T.2 j) k (nI x))) := by
  obtain ⟨h1, h2, h3, h4⟩ := h
  have key : ∀ i p, T.2 i p = nI (A.2 i p) → va_up T.2 j (upd (T.2 j) k (nI x)) i p = nI ((setA A j k x).2 i p) := by
    intro i p hip
    show (if i = j then upd (T.2 j) k (nI x) else T.2 i) p = nI ((if i = j then updN (A.2 j) k x else A.2 i) p)
    by_cases e : i = j
    · subst e
      simp only [if_true]
      unfold upd updN
      by_cases e2 : p = k
      · simp [e2]
      · simp [e2, hip]
    · simp only [if_neg e]
      exact hip
  exact ⟨h1, fun i hi p hp => key i p (h2 i hi p hp), fun i hi hi2 p hp => key i p (h3 i hi hi2 p hp), fun i hi hi2 p hp => key i p (h4 i hi hi2 p hp)⟩
theorem setA_same {A : AT} {j k x : Nat} : (setA A j k x).2 j k = x := by
  show (if j = j then updN (A.2 j) k x else A.2 j) k = x
  simp [updN]
theorem setA_k {A : AT} {j k x k' : Nat} (h : k' ≠ k) : (setA A j k x).2 j k' = A.2 j k' := by
  show (if j = j then updN (A.2 j) k x else A.2 j) k' = _
  simp [updN, h]
theorem setA_j {A : AT} {j k x j' : Nat} (h : j' ≠ j) : (setA A j k x).2 j' = A.2 j' := by
  show (if j' = j then updN (A.2 j) k x else A.2 j') = _
  simp [h]
theorem setA_1 {A : AT} {j k x : Nat} : (setA A j k x).1 = A.1 := rfl
theorem setS_2 {A : AT} {k x : Nat} : (setS A k x).2 = A.2 := rfl
theorem setS_same {A : AT} {k x : Nat} : (setS A k x).1 k = x := by show updN A.1 k x k = x; simp [updN]
theorem setS_k {A : AT} {k x k' : Nat} (h : k' ≠ k) : (setS A k x).1 k' = A.1 k' := by show updN A.1 k x k' = _; simp [updN, h]
theorem ixS_le {k : Nat} (hk : k < 7) : ixS k ≤ 6 := by unfold ixS; split <;> (try split) <;> omega
theorem ixS_ne {i k : Nat} (hi : i < 7) (hk : k < 7) (h : i ≠ k) : ixS i ≠ ixS k := by
  unfold ixS
  split <;> split <;> (try split) <;> (try split) <;> omega
theorem rM_setS {A : AT} {t : Nat → Int32} (h : rM A t) {k x : Nat} (hk : k < 4) : rM (setS A k x) (upd t (ixS k) (nI x)) := by
  obtain ⟨h0, h1, h2, h3, h4, h5⟩ := h
  have hix : ixS k ≤ 6 := ixS_le (by omega)
  have e4 : (setS A k x).1 4 = A.1 4 := setS_k (by omega)
  have e5 : (setS A k x).1 5 = A.1 5 := setS_k (by omega)
  have e6 : (setS A k x).1 6 = A.1 6 := setS_k (by omega)
  refine ⟨by rw [e4, e5, e6]; exact h0, fun i hi => ?_, fun j hj p hp => ?_, fun j hj p hp => ?_, fun j hj p hp => ?_, fun i hi => ?_⟩
  · show upd t (ixS k) (nI x) (ixS i) = nI (updN A.1 k x i)
    unfold upd updN
    by_cases e : i = k
    · simp [e]
    · rw [if_neg (ixS_ne hi (by omega) e), if_neg e]; exact h1 i hi
  · rw [e4] at hp
    show upd t (ixS k) (nI x) (8 + 3 * p + j) = nI (A.2 j p)
    unfold upd; rw [if_neg (by omega)]; exact h2 j hj p hp
  · rw [e5] at hp
    show upd t (ixS k) (nI x) (26 + 5 * p + j) = nI (A.2 (3 + j) p)
    unfold upd; rw [if_neg (by omega)]; exact h3 j hj p hp
  · rw [e6] at hp
    show upd t (ixS k) (nI x) (66 + 2 * p + j) = nI (A.2 (8 + j) p)
    unfold upd; rw [if_neg (by omega)]; exact h4 j hj p hp
  · show upd t (ixS k) (nI x) i = nI (A.2 10 i)
    unfold upd; rw [if_neg (by omega)]; exact h5 i hi
theorem rM_setP {A : AT} {t : Nat → Int32} (h : rM A t) {j p x : Nat} (hj : j < 3) (hp : p < 6) : rM (setA A j p x) (upd t (8 + 3 * p + j) (nI x)) := by
  obtain ⟨h0, h1, h2, h3, h4, h5⟩ := h
  refine ⟨h0, fun i hi => ?_, fun i hi q hq => ?_, fun i hi q hq => ?_, fun i hi q hq => ?_, fun i hi => ?_⟩
  · have := ixS_le hi
    show upd t _ (nI x) (ixS i) = nI (A.1 i)
    unfold upd; rw [if_neg (by omega)]; exact h1 i hi
  · unfold upd
    by_cases e : i = j
    · subst e
      by_cases e2 : q = p
      · subst e2; rw [setA_same, if_pos rfl]
      · rw [setA_k e2, if_neg (by omega)]; exact h2 i hi q hq
    · rw [setA_j e, if_neg (by omega)]; exact h2 i hi q hq
  · unfold upd
    rw [setA_j (by omega), if_neg (by omega)]; exact h3 i hi q hq
  · unfold upd
    rw [setA_j (by omega), if_neg (by omega)]; exact h4 i hi q hq
  · unfold upd
    rw [setA_j (by omega), if_neg (by omega)]; exact h5 i hi
theorem rM_setL {A : AT} {t : Nat → Int32} (h : rM A t) {j l x : Nat} (hj : j < 5) (hl : l < 8) : rM (setA A (3 + j) l x) (upd t (26 + 5 * l + j) (nI x)) := by
  obtain ⟨h0, h1, h2, h3, h4, h5⟩ := h
  refine ⟨h0, fun i hi => ?_, fun i hi q hq => ?_, fun i hi q hq => ?_, fun i hi q hq => ?_, fun i hi => ?_⟩
  · have := ixS_le hi
    show upd t _ (nI x) (ixS i) = nI (A.1 i)
    unfold upd; rw [if_neg (by omega)]; exact h1 i hi
  · have hq4 : q < A.1 4 := hq
    unfold upd
    rw [setA_j (by omega), if_neg (by omega)]; exact h2 i hi q hq
  · unfold upd
    by_cases e : i = j
    · subst e
      by_cases e2 : q = l
      · subst e2; rw [setA_same, if_pos rfl]
      · rw [setA_k e2, if_neg (by omega)]; exact h3 i hi q hq
    · rw [setA_j (by omega), if_neg (by omega)]; exact h3 i hi q hq
  · unfold upd
    rw [setA_j (by omega), if_neg (by omega)]; exact h4 i hi q hq
  · unfold upd
    rw [setA_j (by omega), if_neg (by omega)]; exact h5 i hi
/-- what the model's row holds beyond the town, taken into row 10 -/
def fixR (A : AT) (t : Nat → Int32) : AT := (A.1, fun j => if j = 10 then fun k => (t k).toUInt32.toNat else A.2 j)
theorem nI_un (x : Int32) : nI x.toUInt32.toNat = x := by
  show Int32.ofInt (x.toUInt32.toNat : Int) = x
  apply Int32.toInt_inj.mp
  rw [Int32.toInt_ofInt, Int32.toInt, BitVec.toInt_eq_toNat_bmod]
  rfl
theorem fixR_j {A : AT} {t : Nat → Int32} {j : Nat} (h : j ≠ 10) : (fixR A t).2 j = A.2 j := if_neg h
theorem fixR_10 {A : AT} {t : Nat → Int32} {k : Nat} : nI ((fixR A t).2 10 k) = t k := by
  show nI ((if 10 = 10 then fun k => (t k).toUInt32.toNat else A.2 10) k) = t k
  rw [if_pos rfl]; exact nI_un _
/-- the model's row holds A, its past left aside -/
def rM5 (A : AT) (t : Nat → Int32) : Prop := (A.1 4 ≤ 6 ∧ A.1 5 ≤ 8 ∧ A.1 6 ≤ 8) ∧ (∀ k, k < 7 → t (ixS k) = nI (A.1 k)) ∧ (∀ j, j < 3 → ∀ p, p < A.1 4 → t (8 + 3 * p + j) = nI (A.2 j p)) ∧ (∀ j, j < 5 → ∀ l, l < A.1 5 → t (26 + 5 * l + j) = nI (A.2 (3 + j) l)) ∧ (∀ j, j < 2 → ∀ o, o < A.1 6 → t (66 + 2 * o + j) = nI (A.2 (8 + j) o))
theorem rM_5 {A : AT} {t : Nat → Int32} (h : rM A t) : rM5 A t := ⟨h.1, h.2.1, h.2.2.1, h.2.2.2.1, h.2.2.2.2.1⟩
theorem rM_fix {A : AT} {t : Nat → Int32} (h : rM5 A t) : rM (fixR A t) t := by
  refine ⟨h.1, h.2.1, fun j hj p hp => ?_, fun j hj p hp => ?_, fun j hj p hp => ?_, fun k _ => fixR_10.symm⟩
  · rw [fixR_j (by omega)]; exact h.2.2.1 j hj p hp
  · rw [fixR_j (by omega)]; exact h.2.2.2.1 j hj p hp
  · rw [fixR_j (by omega)]; exact h.2.2.2.2 j hj p hp
theorem rT_fix {A : AT} {T : Tw} {t : Nat → Int32} (h : rT A T) : rT (fixR A t) T := by
  refine ⟨h.1, fun j hj p hp => ?_, fun j hj hj2 p hp => ?_, fun j hj hj2 p hp => ?_⟩
  · rw [fixR_j (by omega)]; exact h.2.1 j hj p hp
  · rw [fixR_j (by omega)]; exact h.2.2.1 j hj hj2 p hp
  · rw [fixR_j (by omega)]; exact h.2.2.2 j hj hj2 p hp
theorem okA_fix {b : Nat} {A : AT} {t : Nat → Int32} (h : okA b A) : okA b (fixR A t) := by
  unfold okA
  simp only [fixR_j (A := A) (t := t) (show (0 : Nat) ≠ 10 by omega), fixR_j (A := A) (t := t) (show (1 : Nat) ≠ 10 by omega), fixR_j (A := A) (t := t) (show (2 : Nat) ≠ 10 by omega), fixR_j (A := A) (t := t) (show (3 : Nat) ≠ 10 by omega), fixR_j (A := A) (t := t) (show (4 : Nat) ≠ 10 by omega), fixR_j (A := A) (t := t) (show (5 : Nat) ≠ 10 by omega), fixR_j (A := A) (t := t) (show (6 : Nat) ≠ 10 by omega), fixR_j (A := A) (t := t) (show (7 : Nat) ≠ 10 by omega), fixR_j (A := A) (t := t) (show (8 : Nat) ≠ 10 by omega), fixR_j (A := A) (t := t) (show (9 : Nat) ≠ 10 by omega)]
  exact h
