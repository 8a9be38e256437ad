/-! PURE: words of the text. -/
def wl (i j : Nat) : Nat := (([[99, 104, 101, 115, 116], [114, 97, 116, 101], [112, 101, 114, 115, 111, 110], [108, 111, 97, 110], [111, 102, 102, 101, 114]] : List (List Nat)).getD i []).getD j 0
def wlen (i : Nat) : Nat := ([5, 4, 6, 4, 5] : List Nat).getD i 0
theorem wl_ch {i j : Nat} (hi : i < 5) (hj : j < 6) : chJ i j = nI (wl i j) := by
  have key : ∀ (i : Fin 5) (j : Fin 6), chJ i.val j.val = nI (wl i.val j.val) := by decide +kernel
  exact key ⟨i, hi⟩ ⟨j, hj⟩
theorem wl_len {i : Nat} (hi : i < 5) : lenJ.getD i 0 = wlen i ∧ 4 ≤ wlen i ∧ wlen i ≤ 6 := by
  have key : ∀ i : Fin 5, lenJ.getD i.val 0 = wlen i.val ∧ 4 ≤ wlen i.val ∧ wlen i.val ≤ 6 := by decide +kernel
  exact key ⟨i, hi⟩
theorem wl_let {i j : Nat} (hi : i < 5) (hj : j < wlen i) : 97 ≤ wl i j ∧ wl i j ≤ 122 := by
  have key : ∀ (i : Fin 5) (j : Fin 6), j.val < wlen i.val → 97 ≤ wl i.val j.val ∧ wl i.val j.val ≤ 122 := by decide +kernel
  have := (wl_len hi).2.2
  exact key ⟨i, hi⟩ ⟨j, by omega⟩ hj
/-- the token is the i-th word -/
def isW (ch : Nat → Nat) (s e k i : Nat) : Prop := k = 1 ∧ e - s = wlen i ∧ ∀ j, j < wlen i → ch (s + j) = wl i j
theorem s_isWord {m s e k i : Nat} {ch : Nat → Nat} {X : Tx} {M : Ms} (hi : i < 5) (hT : TX m ch X M) (hK : TK m ch s e k X M) : (isW ch s e k i → f_X4_isWord i X = some 1) ∧ (¬ isW ch s e k i → f_X4_isWord i X = some 0) := by
  obtain ⟨h1, h2, h3, h4, h5, h6⟩ := hT
  obtain ⟨k1, k2, k3, k4, k5, k6, k7, k8, kd⟩ := hK
  obtain ⟨w1, w2, w3⟩ := wl_len hi
  have tok : (X.1 1 = (1 : Int32)) = (k = 1) := by
    apply propext
    rcases kd with ⟨a, b, c⟩ | ⟨a, b, c, d⟩ | ⟨a, b, c, d, f⟩ | ⟨a, b, c⟩ | ⟨a, b, c⟩
    · rw [c, a]; exact ⟨fun h => absurd h (by decide), fun h => absurd h (by decide)⟩
    · rw [d, a]; exact ⟨fun _ => rfl, fun _ => rfl⟩
    · rw [a]
      refine ⟨fun h => ?_, fun h => absurd h (by decide)⟩
      by_cases q : e - s ≤ 5
      · rw [(d q).1] at h; exact absurd h (by decide)
      · rw [f (by omega)] at h; exact absurd h (by decide)
    · rw [c, a]; exact ⟨fun h => absurd h (by decide), fun h => absurd h (by decide)⟩
    · rw [c, a]; exact ⟨fun h => absurd h (by decide), fun h => absurd h (by decide)⟩
  unfold f_X4_isWord
  by_cases c1 : k = 1
  · rw [if_pos (tok.mpr c1), k3, k4, w1, subN k1]
    have el : (nI (e - s) = nI (wlen i)) = (e - s = wlen i) := eqN (by omega) (by omega)
    by_cases c2 : e - s = wlen i
    · rw [if_pos (el.mpr c2), lett_d]
      unfold l_X4_isWord_28
      have loop : ((∀ j, j < wlen i → ch (s + j) = wl i j) ∧ itr (fun (k : Int32 → Option Int32) (z : Int32) => f_X4_isWord_28 i z X (fun x2 => k x2)) FU (nI 0) = some 1) ∨ ((∃ j, j < wlen i ∧ ¬ ch (s + j) = wl i j) ∧ itr (fun (k : Int32 → Option Int32) (z : Int32) => f_X4_isWord_28 i z X (fun x2 => k x2)) FU (nI 0) = some 0) := by
        refine itr_rel (fun q z => z = nI q ∧ ∀ j, j < q → ch (s + j) = wl i j) (fun r => ((∀ j, j < wlen i → ch (s + j) = wl i j) ∧ r = some 1) ∨ ((∃ j, j < wlen i ∧ ¬ ch (s + j) = wl i j) ∧ r = some 0)) (wlen i) ?_ FU 0 _ ⟨rfl, fun j hj => absurd hj (Nat.not_lt_zero _)⟩ (Nat.zero_le _) (by rw [FU_d]; omega)
        rintro q z hq ⟨rfl, hl⟩
        by_cases hlt : q < wlen i
        · have hc := h4 (s + q) (by omega)
          have hw := wl_let hi hlt
          have ec : (nI (ch (s + q)) = nI (wl i q)) = (ch (s + q) = wl i q) := eqN (by omega) (by omega)
          have body : ∀ kk : Int32 → Option Int32, f_X4_isWord_28 i (nI q) X (fun x2 => kk x2) = if ch (s + q) = wl i q then kk (nI (q + 1)) else some 0 := by
            intro kk
            unfold f_X4_isWord_28
            rw [w1, if_neg (by rw [leN (by omega) (by omega)]; omega), k3, nI_add, gi_n (by omega) (by omega), gi_n (by omega) (by omega), clN (by omega), clN (by omega), h5 _ (by omega), wl_ch hi (by omega), lett_d, show nI q + 1 = nI (q + 1) from nI_add q 1]
            by_cases c : ch (s + q) = wl i q
            · rw [if_pos (ec.mpr c), if_pos c]
            · rw [if_neg (fun x => c (ec.mp x)), if_neg c]
          by_cases c : ch (s + q) = wl i q
          · left
            refine ⟨hlt, nI (q + 1), ⟨rfl, fun j hj => ?_⟩, fun kk => (body kk).trans (if_pos c)⟩
            by_cases e' : j = q
            · rw [e']; exact c
            · exact hl j (by omega)
          · right
            exact ⟨some 0, Or.inr ⟨⟨q, hlt, c⟩, rfl⟩, fun kk => (body kk).trans (if_neg c)⟩
        · right
          have eq : q = wlen i := by omega
          subst eq
          refine ⟨some 1, Or.inl ⟨hl, rfl⟩, fun kk => ?_⟩
          show f_X4_isWord_28 i (nI (wlen i)) X _ = _
          unfold f_X4_isWord_28
          rw [w1, if_pos (Int32.le_refl _)]
      rcases loop with ⟨l1, l2⟩ | ⟨⟨j, hj, l1⟩, l2⟩
      · exact ⟨fun _ => l2, fun h => absurd ⟨c1, c2, l1⟩ h⟩
      · exact ⟨fun h => absurd (h.2.2 j hj) l1, fun _ => l2⟩
    · rw [if_neg (fun x => c2 (el.mp x))]
      exact ⟨fun h => absurd h.2.1 c2, fun _ => rfl⟩
  · rw [if_neg (fun x => c1 (tok.mp x))]
    exact ⟨fun h => absurd h.1 c1, fun _ => rfl⟩
def vW (g : Nat → Nat) : Nat → Nat
  | 0 => 0
  | n + 1 => 27 * vW g n + (g n - 96)
theorem vW_inj {f g : Nat → Nat} : ∀ n l, (∀ j, j < n → 97 ≤ f j ∧ f j ≤ 122) → (∀ j, j < l → 97 ≤ g j ∧ g j ≤ 122) → vW f n = vW g l → n = l ∧ ∀ j, j < n → f j = g j
  | 0, 0, _, _, _ => ⟨rfl, fun j hj => absurd hj (Nat.not_lt_zero _)⟩
  | 0, l + 1, _, hg, h => by
    have := hg l (by omega)
    have h' : 0 = 27 * vW g l + (g l - 96) := h
    omega
  | n + 1, 0, hf, _, h => by
    have := hf n (by omega)
    have h' : 27 * vW f n + (f n - 96) = 0 := h
    omega
  | n + 1, l + 1, hf, hg, h => by
    have a := hf n (by omega)
    have c := hg l (by omega)
    have h' : 27 * vW f n + (f n - 96) = 27 * vW g l + (g l - 96) := h
    obtain ⟨e1, e2⟩ := vW_inj n l (fun j hj => hf j (by omega)) (fun j hj => hg j (by omega)) (by omega)
    subst e1
    refine ⟨rfl, fun j hj => ?_⟩
    by_cases e : j = n
    · rw [e]; omega
    · exact e2 j (by omega)
theorem vW_lt {g : Nat → Nat} : ∀ n, (∀ j, j < n → 97 ≤ g j ∧ g j ≤ 122) → vW g n < 27 ^ n
  | 0, _ => by show 0 < 1; omega
  | n + 1, h => by
    have ih := vW_lt n (fun j hj => h j (by omega))
    have := h n (by omega)
    show 27 * vW g n + (g n - 96) < 27 ^ (n + 1)
    rw [Nat.pow_succ]
    omega
theorem lNs {a b : Nat} (h : b ≤ a) : lN a - lN b = lN (a - b) := by
  have e : lN (a - b) + lN b = lN a := by rw [lNa, Nat.sub_add_cancel h]
  rw [← e, Int64.sub_eq_add_neg, Int64.add_assoc, Int64.add_right_neg, Int64.add_zero]
theorem m_word {m s e k : Nat} {ch : Nat → Nat} {X : Tx} {M : Ms} (hT : TX m ch X M) (hK : TK m ch s e k X M) : f_X8_word M = some (lN (if k = 1 ∧ e - s < 7 then vW (fun j => ch (s + j)) (e - s) else 0)) := by
  obtain ⟨h1, h2, h3, h4, h5, h6⟩ := id hT
  obtain ⟨k1, k2, k3, k4, k5, k6, k7, k8, kd⟩ := hK
  have kk4 : k ≤ 4 := by rcases kd with a | a | a | a | a <;> omega
  unfold f_X8_word
  rw [lett_d, lett_d]
  unfold l_X8_word_4
  have e1 : (nI k = (1 : Int32)) = (k = 1) := eqN (b := 1) (by omega) (by omega)
  have e7 : ((7 : Int32) ≤ nI (e - s)) = (7 ≤ e - s) := leN (a := 7) (by omega) (by omega)
  by_cases c : k = 1 ∧ e - s < 7
  · rw [if_pos c]
    have hl : ∀ j, s ≤ j → j < e → srt (ch j) = 1 := by
      rcases kd with ⟨a, b, d⟩ | ⟨a, b, d, f⟩ | ⟨a, b, d, f, g⟩ | ⟨a, b, d⟩ | ⟨a, b, d⟩
      · omega
      · exact d.2.2.1
      · omega
      · omega
      · omega
    refine itr_st (fun i => (lN (vW (fun j => ch (s + j)) i), nI i)) _ (e - s) ?_ ?_ FU 0 (by omega) (by rw [FU_d]; omega)
    · intro i kk hi
      have d := srt_1.mp (hl (s + i) (by omega) (by omega))
      have hc := h4 (s + i) (by omega)
      show f_X8_word_4 (lN (vW (fun j => ch (s + j)) i)) (nI i) M (fun x1 x3 => kk (x1, x3)) = kk (lN (27 * vW (fun j => ch (s + j)) i + (ch (s + i) - 96)), nI (i + 1))
      unfold f_X8_word_4
      rw [k7, if_neg (by rw [leN (by omega) (by omega)]; omega), if_neg (fun x => absurd (e7.mp x) (by omega)), k8, if_pos (e1.mpr c.1), k6, nI_add, m_byte hT (by omega), if_pos (show s + i < m by omega), bn_s, lett_d, lett_d, toL (by omega), show (27 : Int64) * lN (vW (fun j => ch (s + j)) i) = lN (27 * vW (fun j => ch (s + j)) i) from lNm 27 _, lNa, show lN (27 * vW (fun j => ch (s + j)) i + ch (s + i)) - 96 = lN (27 * vW (fun j => ch (s + j)) i + ch (s + i) - 96) from lNs (b := 96) (by omega), show nI i + 1 = nI (i + 1) from nI_add i 1, show 27 * vW (fun j => ch (s + j)) i + ch (s + i) - 96 = 27 * vW (fun j => ch (s + j)) i + (ch (s + i) - 96) by omega]
    · intro kk
      show f_X8_word_4 _ (nI (e - s)) M (fun x1 x3 => kk (x1, x3)) = _
      unfold f_X8_word_4
      rw [k7, if_pos (Int32.le_refl _)]
  · rw [if_neg c]
    show f_X8_word_4 0 0 M _ = some (lN 0)
    unfold f_X8_word_4
    rw [k7, k8]
    by_cases z : nI (e - s) ≤ 0
    · rw [if_pos z]; rfl
    · rw [if_neg z]
      by_cases q : 7 ≤ e - s
      · rw [if_pos (e7.mpr q)]; rfl
      · rw [if_neg (fun x => q (e7.mp x)), if_neg (fun x => c ⟨e1.mp x, by omega⟩)]; rfl
def vc (i : Nat) : Nat := vW (fun j => wl i j) (wlen i)
theorem vc_n : vc 0 = 1755965 ∧ vc 1 = 355568 ∧ vc 2 = 232608281 ∧ vc 3 = 247172 ∧ vc 4 = 8094240 := by decide +kernel
theorem word_iff {m s e k i : Nat} {ch : Nat → Nat} {X : Tx} {M : Ms} (hi : i < 5) (hT : TX m ch X M) (hK : TK m ch s e k X M) : ((if k = 1 ∧ e - s < 7 then vW (fun j => ch (s + j)) (e - s) else 0) = vc i) ↔ isW ch s e k i := by
  obtain ⟨k1, k2, k3, k4, k5, k6, k7, k8, kd⟩ := hK
  obtain ⟨w1, w2, w3⟩ := wl_len hi
  by_cases c : k = 1 ∧ e - s < 7
  · rw [if_pos c]
    have hl : ∀ j, s ≤ j → j < e → srt (ch j) = 1 := by
      rcases kd with ⟨a, b, d⟩ | ⟨a, b, d, f⟩ | ⟨a, b, d, f, g⟩ | ⟨a, b, d⟩ | ⟨a, b, d⟩
      · omega
      · exact d.2.2.1
      · omega
      · omega
      · omega
    constructor
    · intro h
      obtain ⟨e1, e2⟩ := vW_inj (f := fun j => ch (s + j)) (g := fun j => wl i j) (e - s) (wlen i) (fun j hj => srt_1.mp (hl (s + j) (by omega) (by omega))) (fun j hj => wl_let hi hj) h
      exact ⟨c.1, e1, fun j hj => e2 j (by omega)⟩
    · rintro ⟨_, e1, e2⟩
      unfold vc
      rw [e1]
      have : ∀ n, n ≤ wlen i → vW (fun j => ch (s + j)) n = vW (fun j => wl i j) n := by
        intro n
        induction n with
        | zero => intro _; rfl
        | succ n ih =>
          intro hn
          show 27 * vW (fun j => ch (s + j)) n + (ch (s + n) - 96) = 27 * vW (fun j => wl i j) n + (wl i n - 96)
          rw [ih (by omega), e2 n (by omega)]
      exact this _ (Nat.le_refl _)
  · rw [if_neg c]
    constructor
    · intro h
      obtain ⟨v0, v1, v2, v3, v4⟩ := vc_n
      have hi' : i = 0 ∨ i = 1 ∨ i = 2 ∨ i = 3 ∨ i = 4 := by omega
      rcases hi' with q | q | q | q | q <;> subst q <;> omega
    · intro h
      exact absurd ⟨h.1, by rw [h.2.1]; omega⟩ c
theorem item_both {m s e k : Nat} {ch : Nat → Nat} {X : Tx} {M : Ms} (hT : TX m ch X M) (hK : TK m ch s e k X M) : (∃ i, i < 5 ∧ f_X8_item M = some (nI i) ∧ isW ch s e k i ∧ ∀ j, j < 5 → j ≠ i → ¬ isW ch s e k j) ∨ (f_X8_item M = some (-1) ∧ ∀ j, j < 5 → ¬ isW ch s e k j) := by
  have hw := m_word hT hK
  have iff0 := word_iff (i := 0) (by omega) hT hK
  have iff1 := word_iff (i := 1) (by omega) hT hK
  have iff2 := word_iff (i := 2) (by omega) hT hK
  have iff3 := word_iff (i := 3) (by omega) hT hK
  have iff4 := word_iff (i := 4) (by omega) hT hK
  obtain ⟨v0, v1, v2, v3, v4⟩ := vc_n
  have small : (if k = 1 ∧ e - s < 7 then vW (fun j => ch (s + j)) (e - s) else 0) < 2 ^ 60 := by
    by_cases c : k = 1 ∧ e - s < 7
    · rw [if_pos c]
      obtain ⟨k1, k2, k3, k4, k5, k6, k7, k8, kd⟩ := hK
      have hl : ∀ j, s ≤ j → j < e → srt (ch j) = 1 := by
        rcases kd with ⟨a, b, d⟩ | ⟨a, b, d, f⟩ | ⟨a, b, d, f, g⟩ | ⟨a, b, d⟩ | ⟨a, b, d⟩
        · omega
        · exact d.2.2.1
        · omega
        · omega
        · omega
      have := vW_lt (g := fun j => ch (s + j)) (e - s) (fun j hj => srt_1.mp (hl (s + j) (by omega) (by omega)))
      have p6 : (27 : Nat) ^ (e - s) ≤ 27 ^ 6 := Nat.pow_le_pow_right (by omega) (by omega)
      have p : (27 : Nat) ^ 6 < 2 ^ 60 := by decide
      omega
    · rw [if_neg c]; omega
  generalize (if k = 1 ∧ e - s < 7 then vW (fun j => ch (s + j)) (e - s) else 0) = v at *
  have n0 : f_X8_name 3 8 5 19 20 0 = some (lN 1755965) := by decide +kernel
  have n1 : f_X8_name 18 1 20 5 0 0 = some (lN 355568) := by decide +kernel
  have n2 : f_X8_name 16 5 18 19 15 14 = some (lN 232608281) := by decide +kernel
  have n3 : f_X8_name 12 15 1 14 0 0 = some (lN 247172) := by decide +kernel
  have n4 : f_X8_name 15 6 6 5 18 0 = some (lN 8094240) := by decide +kernel
  have cmp : ∀ w : Nat, w < 2 ^ 60 → (lg_cmp (lN v) (lN w) = 0) = (v = w) := fun w hw => propext (Iff.trans (lg_cmp_eq _ _) (pk_lEQ (by omega) (by omega)))
  rw [v0] at iff0
  rw [v1] at iff1
  rw [v2] at iff2
  rw [v3] at iff3
  rw [v4] at iff4
  have none_of : ∀ i, i < 5 → (v = vc i → False) → ¬ isW ch s e k i := by
    intro i hi h w
    have hi' : i = 0 ∨ i = 1 ∨ i = 2 ∨ i = 3 ∨ i = 4 := by omega
    rcases hi' with q | q | q | q | q <;> subst q
    · exact h (by rw [v0]; exact iff0.mpr w)
    · exact h (by rw [v1]; exact iff1.mpr w)
    · exact h (by rw [v2]; exact iff2.mpr w)
    · exact h (by rw [v3]; exact iff3.mpr w)
    · exact h (by rw [v4]; exact iff4.mpr w)
  have vcs : ∀ j, j < 5 → vc j = if j = 0 then 1755965 else if j = 1 then 355568 else if j = 2 then 232608281 else if j = 3 then 247172 else 8094240 := by
    intro j hj
    have hj' : j = 0 ∨ j = 1 ∨ j = 2 ∨ j = 3 ∨ j = 4 := by omega
    rcases hj' with q | q | q | q | q <;> subst q <;> first | exact v0 | exact v1 | exact v2 | exact v3 | exact v4
  have uniq : ∀ i, i < 5 → v = vc i → ∀ j, j < 5 → j ≠ i → ¬ isW ch s e k j := by
    intro i hi hv j hj hne
    refine none_of j hj (fun h => ?_)
    rw [hv, vcs i hi, vcs j hj] at h
    have hi' : i = 0 ∨ i = 1 ∨ i = 2 ∨ i = 3 ∨ i = 4 := by omega
    have hj' : j = 0 ∨ j = 1 ∨ j = 2 ∨ j = 3 ∨ j = 4 := by omega
    rcases hi' with q | q | q | q | q <;> subst q <;> rcases hj' with r | r | r | r | r <;> subst r <;> first | exact hne rfl | exact absurd h (by decide)
  have i70 : ∀ s0 : Int32, f_X8_item_70 (lN v) s0 M = some (if v = 247172 then 3 else if v = 8094240 then 4 else s0) := by
    intro s0
    unfold f_X8_item_70
    rw [n3, bn_s, n4, bn_s]
    by_cases c3 : v = 247172
    · rw [if_pos ((cmp _ (by omega)).mpr c3), if_pos c3]
    · rw [if_neg (fun x => c3 ((cmp _ (by omega)).mp x)), if_neg c3]
      by_cases c4 : v = 8094240
      · rw [if_pos ((cmp _ (by omega)).mpr c4), if_pos c4]
      · rw [if_neg (fun x => c4 ((cmp _ (by omega)).mp x)), if_neg c4]
  unfold f_X8_item
  rw [hw, bn_s, n0, bn_s, n1, bn_s, n2, bn_s, i70, i70, i70, i70]
  by_cases c0 : v = 1755965
  · left
    refine ⟨0, by omega, ?_, iff0.mp c0, uniq 0 (by omega) (by rw [v0]; exact c0)⟩
    rw [if_pos ((cmp _ (by omega)).mpr c0), if_neg (by omega), if_neg (by omega)]
    rfl
  · rw [if_neg (fun x => c0 ((cmp _ (by omega)).mp x))]
    by_cases c1 : v = 355568
    · left
      refine ⟨1, by omega, ?_, iff1.mp c1, uniq 1 (by omega) (by rw [v1]; exact c1)⟩
      rw [if_pos ((cmp _ (by omega)).mpr c1), if_neg (by omega), if_neg (by omega)]
      rfl
    · rw [if_neg (fun x => c1 ((cmp _ (by omega)).mp x))]
      by_cases c2 : v = 232608281
      · left
        refine ⟨2, by omega, ?_, iff2.mp c2, uniq 2 (by omega) (by rw [v2]; exact c2)⟩
        rw [if_pos ((cmp _ (by omega)).mpr c2), if_neg (by omega), if_neg (by omega)]
        rfl
      · rw [if_neg (fun x => c2 ((cmp _ (by omega)).mp x))]
        by_cases c3 : v = 247172
        · left
          refine ⟨3, by omega, ?_, iff3.mp c3, uniq 3 (by omega) (by rw [v3]; exact c3)⟩
          rw [if_pos c3]
          rfl
        · rw [if_neg c3]
          by_cases c4 : v = 8094240
          · left
            refine ⟨4, by omega, ?_, iff4.mp c4, uniq 4 (by omega) (by rw [v4]; exact c4)⟩
            rw [if_pos c4]
            rfl
          · right
            rw [if_neg c4]
            refine ⟨rfl, fun j hj => none_of j hj (fun h => ?_)⟩
            rw [vcs j hj] at h
            have hj' : j = 0 ∨ j = 1 ∨ j = 2 ∨ j = 3 ∨ j = 4 := by omega
            rcases hj' with r | r | r | r | r <;> subst r <;> first | exact c0 h | exact c1 h | exact c2 h | exact c3 h | exact c4 h
