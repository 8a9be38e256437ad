/-! PURE: the chance that one gives to the end: by weights, and by all courses of months. -/
theorem lNa (a b : Nat) : lN a + lN b = lN (a + b) := (Int64.ofNat_add a b).symm
theorem lNm (a b : Nat) : lN a * lN b = lN (a * b) := (Int64.ofNat_mul a b).symm
theorem toL {a : Nat} (h : a < 2147483648) : (nI a).toInt64 = lN a := by
  apply Int64.toInt_inj.mp
  rw [Int32.toInt_toInt64, nI_toInt (by omega), pk_lT (by omega)]
/-- m means, u in the purse, p pence a month, c of ten -/
def wN (u m p c : Nat) : Nat → Nat → Nat
  | 0 => fun j => if j = 0 then 1 else 0
  | t + 1 => fun j => if (t + 1) * p ≤ u + j * m then wN u m p c t j * (10 - c) + (if 0 < j then wN u m p c t (j - 1) * c else 0) else 0
def luU (u m p c r : Nat) : Nat → Nat
  | 0 => 1
  | i + 1 => if (i + 1) * p ≤ u + cntN r (i + 1) * m then luU u m p c r i * (if r.testBit i then c else 10 - c) else 0
def sumR (f : Nat → Nat) : Nat → Nat
  | 0 => 0
  | n + 1 => sumR f n + f n
theorem sumR_congr {f g : Nat → Nat} : ∀ n, (∀ i, i < n → f i = g i) → sumR f n = sumR g n
  | 0, _ => rfl
  | n + 1, h => by show sumR f n + f n = sumR g n + g n; rw [sumR_congr n (fun i hi => h i (by omega)), h n (by omega)]
theorem sumR_add {f : Nat → Nat} (a : Nat) : ∀ c, sumR f (a + c) = sumR f a + sumR (fun r => f (a + r)) c
  | 0 => rfl
  | c + 1 => by show sumR f (a + c) + f (a + c) = sumR f a + (sumR (fun r => f (a + r)) c + f (a + c)); rw [sumR_add a c]; omega
theorem sumR_mul {f : Nat → Nat} {c : Nat} : ∀ n, sumR (fun i => f i * c) n = sumR f n * c
  | 0 => (Nat.zero_mul c).symm
  | n + 1 => by show sumR (fun i => f i * c) n + f n * c = (sumR f n + f n) * c; rw [sumR_mul n, Nat.add_mul]
theorem sumR_zero : ∀ n, sumR (fun _ => 0) n = 0
  | 0 => rfl
  | n + 1 => by show sumR (fun _ => 0) n + 0 = 0; rw [sumR_zero n]
theorem sumR_plus {f g : Nat → Nat} : ∀ n, sumR (fun i => f i + g i) n = sumR f n + sumR g n
  | 0 => rfl
  | n + 1 => by show sumR (fun i => f i + g i) n + (f n + g n) = sumR f n + f n + (sumR g n + g n); rw [sumR_plus n]; omega
theorem sumR_swap {g : Nat → Nat → Nat} (J : Nat) : ∀ N, sumR (fun r => sumR (fun j => g r j) J) N = sumR (fun j => sumR (fun r => g r j) N) J
  | 0 => (sumR_zero J).symm
  | N + 1 => by
    show sumR (fun r => sumR (fun j => g r j) J) N + sumR (fun j => g N j) J = sumR (fun j => sumR (fun r => g r j) N + g N j) J
    rw [sumR_swap J N, sumR_plus]
theorem sumR_le {f g : Nat → Nat} : ∀ n, (∀ i, i < n → f i ≤ g i) → sumR f n ≤ sumR g n
  | 0, _ => Nat.le_refl _
  | n + 1, h => by
    have a := sumR_le n (fun i hi => h i (by omega))
    have c := h n (by omega)
    show sumR f n + f n ≤ sumR g n + g n
    omega
/-- bits below t are those of the rest -/
theorem cnt_hi {t r : Nat} : ∀ i, i ≤ t → cntN (2 ^ t + r) i = cntN r i
  | 0, _ => rfl
  | i + 1, h => by
    show cntN (2 ^ t + r) i + (if (2 ^ t + r).testBit i then 1 else 0) = cntN r i + (if r.testBit i then 1 else 0)
    rw [cnt_hi i (by omega), Nat.testBit_two_pow_add_gt (by omega)]
theorem lu_hi {u m p c t r : Nat} : ∀ i, i ≤ t → luU u m p c (2 ^ t + r) i = luU u m p c r i
  | 0, _ => rfl
  | i + 1, h => by
    show (if (i + 1) * p ≤ u + cntN (2 ^ t + r) (i + 1) * m then luU u m p c (2 ^ t + r) i * (if (2 ^ t + r).testBit i then c else 10 - c) else 0) = (if (i + 1) * p ≤ u + cntN r (i + 1) * m then luU u m p c r i * (if r.testBit i then c else 10 - c) else 0)
    rw [lu_hi i (by omega), cnt_hi (i + 1) h, Nat.testBit_two_pow_add_gt (by omega)]
theorem cnt_s {r i : Nat} : cntN r (i + 1) = cntN r i + (if r.testBit i then 1 else 0) := rfl
theorem lu_s {u m p c r i : Nat} : luU u m p c r (i + 1) = if (i + 1) * p ≤ u + cntN r (i + 1) * m then luU u m p c r i * (if r.testBit i then c else 10 - c) else 0 := rfl
theorem w_s {u m p c t j : Nat} : wN u m p c (t + 1) j = if (t + 1) * p ≤ u + j * m then wN u m p c t j * (10 - c) + (if 0 < j then wN u m p c t (j - 1) * c else 0) else 0 := rfl
/-- the courses of t months with j good ones have the weight j -/
theorem w_sum {u m p c : Nat} : ∀ t j, sumR (fun r => if cntN r t = j then luU u m p c r t else 0) (2 ^ t) = wN u m p c t j
  | 0, j => by
    show 0 + (if 0 = j then 1 else 0) = (if j = 0 then 1 else 0)
    by_cases e : j = 0
    · rw [if_pos e, if_pos e.symm]
    · rw [if_neg e, if_neg (fun h => e h.symm)]
  | t + 1, j => by
    have ih := w_sum (u := u) (m := m) (p := p) (c := c) t
    rw [show 2 ^ (t + 1) = 2 ^ t + 2 ^ t by rw [Nat.pow_succ]; omega, sumR_add]
    have lo : sumR (fun r => if cntN r (t + 1) = j then luU u m p c r (t + 1) else 0) (2 ^ t) = if (t + 1) * p ≤ u + j * m then wN u m p c t j * (10 - c) else 0 := by
      have e : ∀ r, r < 2 ^ t → (if cntN r (t + 1) = j then luU u m p c r (t + 1) else 0) = if (t + 1) * p ≤ u + j * m then (if cntN r t = j then luU u m p c r t else 0) * (10 - c) else 0 := by
        intro r hr
        have hb := Nat.testBit_lt_two_pow hr
        have ec : cntN r (t + 1) = cntN r t := by rw [cnt_s, hb]; rfl
        rw [lu_s, ec, hb, if_neg (show ¬ (false = true) by decide)]
        by_cases q : cntN r t = j
        · rw [if_pos q, if_pos q, q]
        · rw [if_neg q, if_neg q, Nat.zero_mul]
          split <;> rfl
      rw [sumR_congr _ e]
      by_cases q : (t + 1) * p ≤ u + j * m
      · simp only [if_pos q]
        rw [sumR_mul, ih j]
      · simp only [if_neg q]
        rw [sumR_zero]
    have hi : sumR (fun r => if cntN (2 ^ t + r) (t + 1) = j then luU u m p c (2 ^ t + r) (t + 1) else 0) (2 ^ t) = if (t + 1) * p ≤ u + j * m then (if 0 < j then wN u m p c t (j - 1) * c else 0) else 0 := by
      have e : ∀ r, r < 2 ^ t → (if cntN (2 ^ t + r) (t + 1) = j then luU u m p c (2 ^ t + r) (t + 1) else 0) = if (t + 1) * p ≤ u + j * m then (if 0 < j then (if cntN r t = j - 1 then luU u m p c r t else 0) * c else 0) else 0 := by
        intro r hr
        have hb : (2 ^ t + r).testBit t = true := by rw [Nat.testBit_two_pow_add_eq, Nat.testBit_lt_two_pow hr]; rfl
        have ec : cntN (2 ^ t + r) (t + 1) = cntN r t + 1 := by rw [cnt_s, hb, cnt_hi t (Nat.le_refl _)]; rfl
        rw [lu_s, ec, hb, if_pos rfl, lu_hi t (Nat.le_refl _)]
        by_cases q : cntN r t + 1 = j
        · rw [if_pos q, q, if_pos (show 0 < j by omega), if_pos (show cntN r t = j - 1 by omega)]
        · rw [if_neg q]
          by_cases z : 0 < j
          · rw [if_pos z, if_neg (show ¬ cntN r t = j - 1 by omega), Nat.zero_mul]
            split <;> rfl
          · rw [if_neg z]
            split <;> rfl
      rw [sumR_congr _ e]
      by_cases q : (t + 1) * p ≤ u + j * m
      · simp only [if_pos q]
        by_cases z : 0 < j
        · simp only [if_pos z]
          rw [sumR_mul, ih (j - 1)]
        · simp only [if_neg z]
          rw [sumR_zero]
      · simp only [if_neg q]
        rw [sumR_zero]
    rw [lo, hi, w_s]
    by_cases q : (t + 1) * p ≤ u + j * m
    · rw [if_pos q, if_pos q, if_pos q]
    · rw [if_neg q, if_neg q, if_neg q]
theorem cnt_le_i {r : Nat} : ∀ i, cntN r i ≤ i
  | 0 => Nat.le_refl _
  | i + 1 => by have := cnt_le_i (r := r) i; rw [cnt_s]; split <;> omega
theorem pick {f x : Nat} : ∀ n, x < n → sumR (fun j => if x = j then f else 0) n = f
  | 0, h => absurd h (Nat.not_lt_zero _)
  | n + 1, h => by
    show sumR (fun j => if x = j then f else 0) n + (if x = n then f else 0) = f
    by_cases e : x = n
    · rw [if_pos e, sumR_congr (g := fun _ => 0) n (fun i hi => if_neg (by omega)), sumR_zero, Nat.zero_add]
    · rw [if_neg e, pick n (by omega)]; rfl
/-- all courses together weigh as all weights together -/
theorem all_sum {u m p c n : Nat} : sumR (fun r => luU u m p c r n) (2 ^ n) = sumR (fun j => wN u m p c n j) (n + 1) := by
  rw [sumR_congr (g := fun r => sumR (fun j => if cntN r n = j then luU u m p c r n else 0) (n + 1)) _ (fun r _ => (pick (n + 1) (by have := cnt_le_i (r := r) n; omega)).symm), sumR_swap]
  exact sumR_congr _ (fun j _ => w_sum n j)
/-- no more than 10 to the n -/
theorem all_le {u m p c : Nat} (hc : c ≤ 10) : ∀ n, sumR (fun r => luU u m p c r n) (2 ^ n) ≤ 10 ^ n
  | 0 => by show 0 + 1 ≤ 1; omega
  | n + 1 => by
    have ih := all_le (u := u) (m := m) (p := p) hc n
    rw [show 2 ^ (n + 1) = 2 ^ n + 2 ^ n by rw [Nat.pow_succ]; omega, sumR_add]
    have lo : sumR (fun r => luU u m p c r (n + 1)) (2 ^ n) ≤ sumR (fun r => luU u m p c r n) (2 ^ n) * (10 - c) := by
      rw [← sumR_mul]
      refine sumR_le _ (fun r hr => ?_)
      have hb := Nat.testBit_lt_two_pow hr
      rw [lu_s, hb, if_neg (show ¬ (false = true) by decide)]
      split
      · exact Nat.le_refl _
      · exact Nat.zero_le _
    have hi : sumR (fun r => luU u m p c (2 ^ n + r) (n + 1)) (2 ^ n) ≤ sumR (fun r => luU u m p c r n) (2 ^ n) * c := by
      rw [← sumR_mul]
      refine sumR_le _ (fun r hr => ?_)
      have hb : (2 ^ n + r).testBit n = true := by rw [Nat.testBit_two_pow_add_eq, Nat.testBit_lt_two_pow hr]; rfl
      rw [lu_s, hb, if_pos rfl, lu_hi n (Nat.le_refl _)]
      split
      · exact Nat.le_refl _
      · exact Nat.zero_le _
    generalize sumR (fun r => luU u m p c r n) (2 ^ n) = s at *
    have e : s * (10 - c) + s * c = s * 10 := by rw [← Nat.mul_add]; exact congrArg _ (by omega)
    have m10 : s * 10 ≤ 10 ^ n * 10 := Nat.mul_le_mul_right 10 ih
    rw [Nat.pow_succ]
    omega
theorem lu_0 {u m p c r i : Nat} (h : luU u m p c r i = 0) : ∀ d, luU u m p c r (i + d) = 0
  | 0 => h
  | d + 1 => by
    show luU u m p c r (i + d + 1) = 0
    rw [lu_s, lu_0 h d, Nat.zero_mul]
    split <;> rfl
/-- Euclid's steps come to an end -/
def eucl (a c : Nat) : Nat → Nat × Nat
  | 0 => (a, c)
  | i + 1 => ((eucl a c i).2, (eucl a c i).1 % (eucl a c i).2)
theorem eucl_s {a c : Nat} : ∀ i, eucl a c (i + 1) = eucl c (a % c) i
  | 0 => rfl
  | i + 1 => by show ((eucl a c (i + 1)).2, (eucl a c (i + 1)).1 % (eucl a c (i + 1)).2) = ((eucl c (a % c) i).2, (eucl c (a % c) i).1 % (eucl c (a % c) i).2); rw [eucl_s i]
theorem eucl_end : ∀ k a c, c < 2 ^ k → ∃ i, i ≤ 2 * k ∧ (eucl a c i).2 = 0
  | 0, a, c, h => ⟨0, Nat.le_refl _, by show c = 0; have : (2 : Nat) ^ 0 = 1 := rfl; omega⟩
  | k + 1, a, c, h => by
    by_cases c0 : c = 0
    · exact ⟨0, by omega, c0⟩
    · by_cases c1 : a % c = 0
      · exact ⟨1, by omega, c1⟩
      · have l1 : a % c < c := Nat.mod_lt _ (by omega)
        have l2 : c % (a % c) < a % c := Nat.mod_lt _ (by omega)
        have d := Nat.div_add_mod c (a % c)
        have q1 : 1 ≤ c / (a % c) := (Nat.one_le_div_iff (by omega)).mpr (by omega)
        have q2 : (a % c) * 1 ≤ (a % c) * (c / (a % c)) := Nat.mul_le_mul_left _ q1
        have pw : 2 ^ (k + 1) = 2 ^ k * 2 := Nat.pow_succ ..
        obtain ⟨i, hi, e⟩ := eucl_end k (a % c) (c % (a % c)) (by omega)
        exact ⟨i + 2, by omega, by rw [eucl_s, eucl_s]; exact e⟩
