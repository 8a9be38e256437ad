/-! PURE: the two states beside one another. -/
/-- a moment that may come back: 0 chest, 1 lacks, 2 month, 3 people, 4 loans; rows 0 purse, 1 owner, 2 state, 3 given -/
abbrev AE : Type := (Nat → Nat) × (Nat → Nat → Nat)
abbrev AP : Type := Nat × (Nat → AE)
def rPE (E : AE) (f : Nat → Int32) (o : Nat) : Prop := (∀ k, k < 5 → f (o + k) = nI (E.1 k)) ∧ (∀ p, p < E.1 3 → f (o + 5 + p) = nI (E.2 0 p)) ∧ (∀ l, l < E.1 4 → f (o + 11 + l) = nI (E.2 1 l) ∧ f (o + 19 + l) = nI (E.2 2 l) ∧ f (o + 27 + l) = nI (E.2 3 l))
def rME (E : AE) (t : Nat → Int32) (o : Nat) : Prop := (∀ k, k < 5 → t (o + k) = nI (E.1 k)) ∧ (∀ p, p < E.1 3 → t (o + 5 + p) = nI (E.2 0 p)) ∧ (∀ l, l < E.1 4 → t (o + 11 + 3 * l) = nI (E.2 1 l) ∧ t (o + 12 + 3 * l) = nI (E.2 2 l) ∧ t (o + 13 + 3 * l) = nI (E.2 3 l))
def okE (b : Nat) (A : AT) (E : AE) : Prop := E.1 0 ≤ 99999 ∧ E.1 1 ≤ b ∧ E.1 2 ≤ b ∧ E.1 3 ≤ A.1 4 ∧ E.1 4 ≤ A.1 5 ∧ (∀ p, p < E.1 3 → E.2 0 p ≤ 9999) ∧ (∀ l, l < E.1 4 → E.2 1 l < E.1 3 ∧ E.2 2 l ≤ 4 ∧ E.2 3 l ≤ A.2 5 l ∧ (E.2 2 l = 0 → E.2 3 l < A.2 5 l))
def rPast (H : AP) (P : Ps) : Prop := P.1 = nI H.1 ∧ ∀ e, e < H.1 → rPE (H.2 e) P.2 (35 * e)
def rMPast (H : AP) (t : Nat → Int32) : Prop := t 7 = nI H.1 ∧ ∀ e, e < H.1 → rME (H.2 e) t (82 + 35 * e)
def okP (b : Nat) (A : AT) (H : AP) : Prop := H.1 ≤ 8 ∧ ∀ e, e < H.1 → okE b A (H.2 e)
/-- a town with what may be undone, on both sides -/
def SRt (b : Nat) (T : Tw) (P : Ps) (t : Nat → Int32) : Prop := ∃ (A : AT) (H : AP), rT A T ∧ rM A t ∧ okA b A ∧ rPast H P ∧ rMPast H t ∧ okP b A H
def SRi (b : Nat) (I : Int32) (T : Tw) (P : Ps) (k : Int32) (t : Nat → Int32) : Prop := (I = 0 ∧ k = 0) ∨ (I = 1 ∧ k = 1 ∧ SRt b T P t)
def SRx (X : Tx) (n : Int32) (t : Nat → Int32) : Prop := ∃ m, m ≤ 150 ∧ X.1 0 = nI m ∧ n = nI m ∧ ∀ j, j < m → ∃ c, c ≤ 127 ∧ X.2 j = nI c ∧ t j = nI c
/-- the class and the model, alike; b bounds months and lacks -/
def SR (b : Nat) (B : Nat → Int32) (N : Tw) (P : Ps) (I1 : Int32) (T1 : Tw) (P1 : Ps) (I2 : Int32) (T2 : Tw) (P2 : Ps) (X : Tx) (K : Ch) (M : Ms) : Prop :=
  (∀ i, i < 3 → B i = M.2.2 5 i) ∧ SRt b N P (M.2.2 0) ∧ SRi b I1 T1 P1 (M.2.2 4 0) (fun j => M.2.2 3 j) ∧ SRi b I2 T2 P2 (M.2.2 4 1) (fun j => M.2.2 3 (362 + j)) ∧ SRx X (M.1 0) (M.2.2 6) ∧ (K.1 0 = M.2.1 0 ∧ K.1 1 = M.2.1 1)
