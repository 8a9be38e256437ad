/-! PURE: wills: shares by a way. -/
theorem modN {r h : Nat} (hr : r < 1000000) (h0 : 0 < h) (hh : h < 1000) : nI r - nI r / nI h * nI h = nI (r % h) := by
  have d := Nat.div_add_mod r h
  have c : h * (r / h) = r / h * h := Nat.mul_comm _ _
  rw [divN (by omega) h0 (by omega), pk_mul, subN (by omega)]
  exact congrArg nI (by omega)
def restN (h : Nat) (w : Nat) : Nat → Nat
  | 0 => w
  | i + 1 => restN h w i / h
theorem restN_le {h w : Nat} : ∀ i, restN h w i ≤ w
  | 0 => Nat.le_refl _
  | i + 1 => Nat.le_trans (Nat.div_le_self _ _) (restN_le i)
/-- what each heir has when i parts, from the last on, are given -/
def getsN (h k : Nat) (wt : Nat → Nat) (w : Nat) : Nat → Nat → Nat
  | 0 => fun _ => 0
  | i + 1 => updN (getsN h k wt w i) (restN h w i % h) (getsN h k wt w i (restN h w i % h) + wt (k - 1 - i))
theorem getsN_le {h k w : Nat} {wt : Nat → Nat} (hw : ∀ j, wt j ≤ 1188) : ∀ i q, getsN h k wt w i q ≤ 1188 * i
  | 0, _ => Nat.le_refl _
  | i + 1, q => by
    have a := getsN_le (h := h) (k := k) (w := w) hw i q
    have c := getsN_le (h := h) (k := k) (w := w) hw i (restN h w i % h)
    have d := hw (k - 1 - i)
    show (if q = restN h w i % h then getsN h k wt w i (restN h w i % h) + wt (k - 1 - i) else getsN h k wt w i q) ≤ 1188 * (i + 1)
    split <;> omega
def minsN (g : Nat → Nat) : Nat → Nat
  | 0 => g 0
  | i + 1 => min (minsN g i) (g (i + 1))
theorem minsN_le {g : Nat → Nat} {c : Nat} (hg : ∀ q, g q ≤ c) : ∀ i, minsN g i ≤ c
  | 0 => hg 0
  | i + 1 => by have := minsN_le hg i; show min (minsN g i) (g (i + 1)) ≤ c; omega
def leastN (h k : Nat) (wt : Nat → Nat) (w : Nat) : Nat := minsN (getsN h k wt w k) (h - 1)
theorem dec1 {c : Nat} : nI (c + 1) - 1 = nI c := by
  have : nI (c + 1) - nI 1 = nI (c + 1 - 1) := subN (by omega)
  exact this
theorem dec2 (x : Int32) : x + (-1) = x - 1 := by rw [Int32.sub_eq_add_neg]
theorem neg_lt : (nI 0 - 1 : Int32) < 0 := by decide
/-- the class's will: how many parts and heirs, what the parts are worth, who the heirs are -/
def LW (h k : Nat) (wt hr : Nat → Nat) (L : Wl) : Prop := L.1 1 = nI k ∧ L.1 2 = nI h ∧ (∀ j, j < k → L.2 0 j = nI (wt j)) ∧ ∀ j, j < h → L.2 1 j = nI (hr j)
theorem s_share3 {h k w : Nat} {wt hr : Nat → Nat} {L : Wl} (hL : LW h k wt hr L) (h1 : 1 ≤ h) (h3 : h ≤ 3) (k8 : k ≤ 8) (hw : ∀ j, wt j ≤ 1188) (ww : w < 100000) : ok (fun r => r.1 = nI (leastN h k wt w) ∧ r.2.1 = L.1 ∧ r.2.2 0 = L.2 0 ∧ r.2.2 1 = L.2 1) (f_X6_leastShare (nI w) L) := by
  obtain ⟨p1, p2, p3, p4⟩ := hL
  unfold f_X6_leastShare
  rw [if_pos (by rw [p2, show (1 : Int32) = nI 1 from rfl, leN (by omega) (by omega)]; exact h1), lett_d, show (0 : Int32) = nI 0 from rfl]
  -- all begin with nothing
  unfold l_X6_leastShare_12
  refine itr_rel (fun i z => ∃ G : Nat → Int32, z = (nI i, (L.1, va_up L.2 2 G)) ∧ ∀ q, q < i → G q = nI 0) _ h ?_ FU 0 _ ⟨L.2 2, by rw [vu_self], fun q hq => absurd hq (Nat.not_lt_zero _)⟩ (Nat.zero_le _) (by rw [FU_d]; omega)
  rintro i z hi ⟨G, rfl, hG⟩
  by_cases hlt : i < h
  · left
    refine ⟨hlt, (nI (i + 1), (L.1, va_up L.2 2 (upd G i (nI 0)))), ⟨_, rfl, fun q hq => ?_⟩, fun kk => ?_⟩
    · by_cases e : q = i
      · subst e; exact up_s
      · rw [up_n e]; exact hG q (by omega)
    · show f_X6_leastShare_12 (nI w) (nI i) (L.1, va_up L.2 2 G) _ _ = _
      unfold f_X6_leastShare_12
      dsimp only
      rw [if_neg (by rw [p2, leN (by omega) (by omega)]; omega), gi_n (by omega) (by omega), clN (by omega), lett_d, lett_d, vu_s, vu_vu, show nI i + 1 = nI (i + 1) from nI_add i 1]
      rfl
  · right
    have e : i = h := by omega
    subst e
    refine ⟨f_X6_leastShare_33 (nI w) (L.1, va_up L.2 2 G), ?_, fun kk => ?_⟩
    rotate_left
    · show f_X6_leastShare_12 (nI w) (nI i) (L.1, va_up L.2 2 G) _ _ = _
      unfold f_X6_leastShare_12
      rw [if_pos (by rw [p2]; exact Int32.le_refl _)]
    unfold f_X6_leastShare_33
    rw [lett_d, p1]
    unfold l_X6_leastShare_42
    refine itr_rel (fun j z => ∃ G : Nat → Int32, z = (nI (restN i w j), nI (k - j) - 1, (L.1, va_up L.2 2 G)) ∧ ∀ q, q < i → G q = nI (getsN i k wt w j q)) _ k ?_ FU 0 _ ⟨G, rfl, hG⟩ (Nat.zero_le _) (by rw [FU_d]; omega)
    rintro j z hj ⟨G, rfl, hG⟩
    have rl := restN_le (h := i) (w := w) j
    by_cases hjk : j < k
    · left
      have hm : restN i w j % i < i := Nat.mod_lt _ (by omega)
      have gl := getsN_le (h := i) (k := k) (w := w) hw j (restN i w j % i)
      have ec : nI (k - j) - 1 = nI (k - 1 - j) := by rw [show k - j = (k - 1 - j) + 1 by omega]; exact dec1
      refine ⟨hjk, (nI (restN i w (j + 1)), nI (k - (j + 1)) - 1, (L.1, va_up L.2 2 (upd G (restN i w j % i) (nI (getsN i k wt w j (restN i w j % i) + wt (k - 1 - j)))))), ⟨_, rfl, fun q hq => ?_⟩, fun kk => ?_⟩
      · show upd G _ _ q = nI (if q = restN i w j % i then getsN i k wt w j (restN i w j % i) + wt (k - 1 - j) else getsN i k wt w j q)
        by_cases e : q = restN i w j % i
        · rw [e, up_s, if_pos rfl]
        · rw [up_n e, if_neg e]; exact hG q hq
      · show f_X6_leastShare_42 (nI (restN i w j)) (nI (k - j) - 1) (L.1, va_up L.2 2 G) _ _ = _
        unfold f_X6_leastShare_42
        dsimp only
        rw [ec, if_neg (by rw [show (0 : Int32) = nI 0 from rfl, ltN (by omega) (by omega)]; omega), p2, gz_n (by omega) (by omega), modN (by omega) (by omega) (by omega), gi_n (by omega) (by omega), gi_n (by omega) (by omega), gi_n (by omega) (by omega), clN (by omega), clN (by omega), vu_s, vu_n (show (0 : Nat) ≠ 2 by omega), p3 _ (by omega), hG _ hm, nI_add, lett_d]
        dsimp only
        rw [p2, gz_n (by omega) (by omega), lett_d, lett_d, dec2, vu_vu, divN (by omega) (by omega) (by omega), show nI (k - (j + 1)) = nI (k - 1 - j) from congrArg nI (by omega)]
        rfl
    · right
      have e : j = k := by omega
      subst e
      have hb : ∀ q, getsN i j wt w j q ≤ 9504 := fun q => Nat.le_trans (getsN_le hw j q) (by omega)
      refine ⟨f_X6_leastShare_79 (L.1, va_up L.2 2 G), ?_, fun kk => ?_⟩
      rotate_left
      · show f_X6_leastShare_42 (nI (restN i w j)) (nI (j - j) - 1) (L.1, va_up L.2 2 G) _ _ = _
        unfold f_X6_leastShare_42
        rw [Nat.sub_self, if_pos neg_lt]
      unfold f_X6_leastShare_79
      dsimp only
      rw [show (0 : Int32) = nI 0 from rfl, gi_n (by omega) (by omega), clN (by omega), lett_d, lett_d, vu_s, hG 0 (by omega)]
      unfold l_X6_leastShare_89
      refine itr_rel (fun q z => z = (nI (minsN (getsN i j wt w j) q), nI (q + 1))) _ (i - 1) ?_ FU 0 _ rfl (Nat.zero_le _) (by rw [FU_d]; omega)
      rintro q z hq rfl
      have ml := minsN_le hb q
      have gl := hb (q + 1)
      by_cases hqi : q < i - 1
      · left
        refine ⟨hqi, (nI (minsN (getsN i j wt w j) (q + 1)), nI (q + 1 + 1)), rfl, fun kk => ?_⟩
        show f_X6_leastShare_89 (nI (minsN (getsN i j wt w j) q)) (nI (q + 1)) (L.1, va_up L.2 2 G) _ = _
        unfold f_X6_leastShare_89
        dsimp only
        rw [if_neg (by rw [p2, leN (by omega) (by omega)]; omega), gi_n (by omega) (by omega), clN (by omega), lett_d, lett_d]
        simp only [vu_s, hG (q + 1) (by omega)]
        rw [show nI (q + 1) + 1 = nI (q + 1 + 1) from nI_add (q + 1) 1]
        have em : (if nI (getsN i j wt w j (q + 1)) < nI (minsN (getsN i j wt w j) q) then nI (getsN i j wt w j (q + 1)) else nI (minsN (getsN i j wt w j) q)) = nI (minsN (getsN i j wt w j) (q + 1)) := by
          have lt := ltN (a := getsN i j wt w j (q + 1)) (b := minsN (getsN i j wt w j) q) (by omega) (by omega)
          show _ = nI (min (minsN (getsN i j wt w j) q) (getsN i j wt w j (q + 1)))
          by_cases c : getsN i j wt w j (q + 1) < minsN (getsN i j wt w j) q
          · rw [if_pos (lt.mpr c), Nat.min_eq_right (by omega)]
          · rw [if_neg (fun x => c (lt.mp x)), Nat.min_eq_left (by omega)]
        rw [em]
      · right
        have e : q = i - 1 := by omega
        subst e
        refine ⟨some (nI (leastN i j wt w), (L.1, va_up L.2 2 G)), ok_s ⟨rfl, rfl, (vu_n (f := L.2) (x := G) (show (0 : Nat) ≠ 2 by omega)), (vu_n (f := L.2) (x := G) (show (1 : Nat) ≠ 2 by omega))⟩, fun kk => ?_⟩
        show f_X6_leastShare_89 (nI (minsN (getsN i j wt w j) (i - 1))) (nI (i - 1 + 1)) (L.1, va_up L.2 2 G) _ = _
        unfold f_X6_leastShare_89
        rw [if_pos (by rw [p2, show i - 1 + 1 = i by omega]; exact Int32.le_refl _)]
        rfl
