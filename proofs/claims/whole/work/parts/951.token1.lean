/-! PURE: tokens of the text, on both sides. -/
def srt (c : Nat) : Nat := if 97 ≤ c ∧ c ≤ 122 then 1 else if 48 ≤ c ∧ c ≤ 57 then 2 else if c = 59 then 3 else 4
theorem srt_1 {c : Nat} : srt c = 1 ↔ 97 ≤ c ∧ c ≤ 122 := by
  unfold srt
  by_cases h : 97 ≤ c ∧ c ≤ 122
  · rw [if_pos h]; exact ⟨fun _ => h, fun _ => rfl⟩
  · rw [if_neg h]
    refine ⟨fun x => ?_, fun x => absurd x h⟩
    split at x
    · omega
    · split at x <;> omega
theorem srt_2 {c : Nat} : srt c = 2 ↔ 48 ≤ c ∧ c ≤ 57 := by
  unfold srt
  by_cases h : 97 ≤ c ∧ c ≤ 122
  · rw [if_pos h]; omega
  · rw [if_neg h]
    by_cases h2 : 48 ≤ c ∧ c ≤ 57
    · rw [if_pos h2]; exact ⟨fun _ => h2, fun _ => rfl⟩
    · rw [if_neg h2]
      refine ⟨fun x => ?_, fun x => absurd x h2⟩
      split at x <;> omega
theorem srt_pos {c : Nat} : 1 ≤ srt c ∧ srt c ≤ 4 := by
  unfold srt
  split
  · omega
  · split
    · omega
    · split <;> omega
theorem srt_3 {c : Nat} (h1 : srt c ≠ 1) (h2 : srt c ≠ 2) : (srt c = 3 ↔ c = 59) := by
  have n1 : ¬ (97 ≤ c ∧ c ≤ 122) := fun x => h1 (srt_1.mpr x)
  have n2 : ¬ (48 ≤ c ∧ c ≤ 57) := fun x => h2 (srt_2.mpr x)
  unfold srt
  rw [if_neg n1, if_neg n2]
  by_cases e : c = 59
  · rw [if_pos e]; exact ⟨fun _ => e, fun _ => rfl⟩
  · rw [if_neg e]; omega
/-- the text, on both sides -/
def TX (m : Nat) (ch : Nat → Nat) (X : Tx) (M : Ms) : Prop := m ≤ 150 ∧ X.1 0 = nI m ∧ M.1 0 = nI m ∧ (∀ j, j < m → ch j ≤ 127) ∧ (∀ j, j < m → X.2 j = nI (ch j)) ∧ ∀ j, j < m → M.2.2 6 j = nI (ch j)
theorem m_byte {m k : Nat} {ch : Nat → Nat} {X : Tx} {M : Ms} (h : TX m ch X M) (hk : k ≤ 1000) : f_X8_byteAt (nI k) M = some (if k < m then nI (ch k) else -1) := by
  obtain ⟨h1, h2, h3, h4, h5, h6⟩ := h
  unfold f_X8_byteAt
  rw [h3]
  have le : (nI m ≤ nI k) = (m ≤ k) := leN (by omega) (by omega)
  by_cases q : k < m
  · rw [if_neg (fun x => absurd (le.mp x) (by omega)), if_pos q, gi_n (by omega) (by omega), clN (by omega), h6 k q]
  · rw [if_pos (le.mpr (by omega)), if_neg q]
theorem m_sort {c : Nat} (h : c ≤ 127) : f_X8_sortOf (nI c) = some (nI (srt c)) := by
  have key : ∀ c : Fin 128, f_X8_sortOf (nI c.val) = some (nI (srt c.val)) := by decide +kernel
  exact key ⟨c, by omega⟩
theorem m_sort0 : f_X8_sortOf (-1) = some (nI 0) := by decide +kernel
/-- e is where the run of sort k that begins at s comes to its end -/
def EndR (m : Nat) (ch : Nat → Nat) (k s e : Nat) : Prop := s ≤ e ∧ e ≤ m ∧ (∀ j, s ≤ j → j < e → srt (ch j) = k) ∧ (e < m → ¬ srt (ch e) = k)
theorem EndR_u {m k s e e' : Nat} {ch : Nat → Nat} (h : EndR m ch k s e) (h' : EndR m ch k s e') : e = e' := by
  obtain ⟨a1, a2, a3, a4⟩ := h
  obtain ⟨b1, b2, b3, b4⟩ := h'
  rcases Nat.lt_trichotomy e e' with l | l | l
  · exact absurd (b3 e a1 l) (a4 (by omega))
  · exact l
  · exact absurd (a3 e' b1 l) (b4 (by omega))
theorem s_takeWord {m s : Nat} {ch : Nat → Nat} {X : Tx} (hm : m ≤ 150) (x0 : X.1 0 = nI m) (hc : ∀ j, j < m → ch j ≤ 127) (hx : ∀ j, j < m → X.2 j = nI (ch j)) (x2 : X.1 2 = nI s) (x3 : X.1 3 = nI s) (hs : s ≤ m) : ok (fun r => ∃ e, EndR m ch 1 s e ∧ r.1 = (if e ≤ s then 0 else 1) ∧ r.2.2 = X.2 ∧ r.2.1 0 = nI m ∧ r.2.1 1 = nI 1 ∧ r.2.1 2 = nI s ∧ r.2.1 3 = nI e) (f_X4_takeWord X) := by
  unfold f_X4_takeWord
  rw [lett_d]
  unfold l_X4_takeWord_5
  refine itr_rel (fun i z => z.2 = X.2 ∧ z.1 0 = nI m ∧ z.1 1 = nI 1 ∧ z.1 2 = nI s ∧ z.1 3 = nI (s + i) ∧ ∀ j, s ≤ j → j < s + i → srt (ch j) = 1) _ (m - s) ?_ FU 0 _ ⟨rfl, ?_, ?_, ?_, ?_, fun j a b => by omega⟩ (Nat.zero_le _) (by rw [FU_d]; omega)
  · rintro i z hi ⟨z2, y0, y1, y2, y3, hl⟩
    have fin : ∀ (hne : s + i < m → ¬ srt (ch (s + i)) = 1), ok (fun r : Int32 × Tx => ∃ e, EndR m ch 1 s e ∧ r.1 = (if e ≤ s then 0 else 1) ∧ r.2.2 = X.2 ∧ r.2.1 0 = nI m ∧ r.2.1 1 = nI 1 ∧ r.2.1 2 = nI s ∧ r.2.1 3 = nI e) (f_X4_takeWord_57 z) := by
      intro hne
      unfold f_X4_takeWord_57
      have le : (z.1 3 ≤ z.1 2) = (s + i ≤ s) := by rw [y2, y3]; exact leN (by omega) (by omega)
      by_cases q : s + i ≤ s
      · rw [if_pos (le.mpr q)]
        exact ok_s ⟨s + i, ⟨by omega, by omega, hl, hne⟩, by rw [if_pos q], z2, y0, y1, y2, y3⟩
      · rw [if_neg (fun x => q (le.mp x))]
        exact ok_s ⟨s + i, ⟨by omega, by omega, hl, hne⟩, by rw [if_neg q], z2, y0, y1, y2, y3⟩
    by_cases hlt : i < m - s
    · have hb : z.2 (s + i) = nI (ch (s + i)) := by rw [z2]; exact hx _ (by omega)
      have hc' := hc (s + i) (by omega)
      have l97 : (nI (ch (s + i)) < (97 : Int32)) = (ch (s + i) < 97) := ltN (b := 97) (by omega) (by omega)
      have l122 : ((122 : Int32) < nI (ch (s + i))) = (122 < ch (s + i)) := ltN (a := 122) (by omega) (by omega)
      have body : ∀ k : Tx → Option (Int32 × Tx), f_X4_takeWord_5 z (fun X => k X) (fun Xz => f_X4_takeWord_57 Xz) = if srt (ch (s + i)) = 1 then k (upd z.1 3 (nI (s + i + 1)), z.2) else f_X4_takeWord_57 z := by
        intro k
        unfold f_X4_takeWord_5
        rw [if_neg (by rw [y0, y3, leN (by omega) (by omega)]; omega), y3, gi_n (by omega) (by omega), gi_n (by omega) (by omega), clN (by omega), hb, lett_d, show nI (s + i) + 1 = nI (s + i + 1) from nI_add _ 1]
        by_cases q : ch (s + i) < 97
        · rw [if_pos (l97.mpr q), if_neg (fun x => absurd (srt_1.mp x) (by omega))]
        · rw [if_neg (fun x => q (l97.mp x))]
          by_cases r : 122 < ch (s + i)
          · rw [if_pos (l122.mpr r), if_neg (fun x => absurd (srt_1.mp x) (by omega))]
          · rw [if_neg (fun x => r (l122.mp x)), if_pos (srt_1.mpr (by omega))]
      by_cases q : srt (ch (s + i)) = 1
      · left
        refine ⟨hlt, (upd z.1 3 (nI (s + i + 1)), z.2), ⟨z2, ?_, ?_, ?_, ?_, fun j a c => ?_⟩, fun k => (body k).trans (if_pos q)⟩
        · exact (show upd z.1 3 (nI (s + i + 1)) 0 = z.1 0 from up_n (by omega)).trans y0
        · exact (show upd z.1 3 (nI (s + i + 1)) 1 = z.1 1 from up_n (by omega)).trans y1
        · exact (show upd z.1 3 (nI (s + i + 1)) 2 = z.1 2 from up_n (by omega)).trans y2
        · exact (show upd z.1 3 (nI (s + i + 1)) 3 = nI (s + (i + 1)) from up_s)
        · by_cases e : j = s + i
          · rw [e]; exact q
          · exact hl j a (by omega)
      · right
        exact ⟨f_X4_takeWord_57 z, fin (fun _ => q), fun k => (body k).trans (if_neg q)⟩
    · right
      refine ⟨f_X4_takeWord_57 z, fin (fun h => by omega), fun k => ?_⟩
      show f_X4_takeWord_5 z _ _ = _
      unfold f_X4_takeWord_5
      rw [if_pos (by rw [y0, y3, leN (by omega) (by omega)]; omega)]
  · exact (show upd X.1 1 (nI 1) 0 = X.1 0 from up_n (by omega)).trans x0
  · exact (show upd X.1 1 (nI 1) 1 = nI 1 from up_s)
  · exact (show upd X.1 1 (nI 1) 2 = X.1 2 from up_n (by omega)).trans x2
  · exact (show upd X.1 1 (nI 1) 3 = X.1 3 from up_n (by omega)).trans x3
/-- the number that n figures from s on spell -/
def digN (ch : Nat → Nat) (s : Nat) : Nat → Nat
  | 0 => 0
  | n + 1 => digN ch s n * 10 + (ch (s + n) - 48)
theorem digN_le {ch : Nat → Nat} {s e : Nat} (h : ∀ j, s ≤ j → j < e → srt (ch j) = 2) : ∀ n, s + n ≤ e → digN ch s n ≤ 10 ^ n - 1
  | 0, _ => Nat.zero_le _
  | n + 1, hn => by
    have ih := digN_le h n (by omega)
    have d := srt_2.mp (h (s + n) (by omega) (by omega))
    have p : 0 < (10 : Nat) ^ n := Nat.pow_pos (by omega)
    show digN ch s n * 10 + (ch (s + n) - 48) ≤ 10 ^ (n + 1) - 1
    rw [Nat.pow_succ]
    omega
theorem s_takeNumber {m s : Nat} {ch : Nat → Nat} {X : Tx} (hm : m ≤ 150) (x0 : X.1 0 = nI m) (hc : ∀ j, j < m → ch j ≤ 127) (hx : ∀ j, j < m → X.2 j = nI (ch j)) (x2 : X.1 2 = nI s) (x3 : X.1 3 = nI s) (hs : s ≤ m) : ok (fun r => ∃ e, EndR m ch 2 s e ∧ r.1 = (if e ≤ s then 0 else 1) ∧ r.2.2 = X.2 ∧ r.2.1 0 = nI m ∧ r.2.1 1 = (if 5 < e - s then nI 4 else nI 2) ∧ r.2.1 2 = nI s ∧ r.2.1 3 = nI e ∧ r.2.1 4 = nI (digN ch s (min 5 (e - s)))) (f_X4_takeNumber X) := by
  unfold f_X4_takeNumber
  rw [lett_d]
  unfold l_X4_takeNumber_5
  refine itr_rel (fun i z => z.2 = X.2 ∧ z.1 0 = nI m ∧ z.1 2 = nI s ∧ z.1 3 = nI (s + i) ∧ z.1 4 = nI (digN ch s (min 5 i)) ∧ ∀ j, s ≤ j → j < s + i → srt (ch j) = 2) _ (m - s) ?_ FU 0 _ ⟨rfl, ?_, ?_, ?_, ?_, fun j a b => by omega⟩ (Nat.zero_le _) (by rw [FU_d]; omega)
  · rintro i z hi ⟨z2, y0, y2, y3, y4, hl⟩
    have fin : ∀ (hne : s + i < m → ¬ srt (ch (s + i)) = 2), ok (fun r : Int32 × Tx => ∃ e, EndR m ch 2 s e ∧ r.1 = (if e ≤ s then 0 else 1) ∧ r.2.2 = X.2 ∧ r.2.1 0 = nI m ∧ r.2.1 1 = (if 5 < e - s then nI 4 else nI 2) ∧ r.2.1 2 = nI s ∧ r.2.1 3 = nI e ∧ r.2.1 4 = nI (digN ch s (min 5 (e - s)))) (f_X4_takeNumber_94 z) := by
      intro hne
      have e13 : ∀ t : Nat, f_X4_takeNumber_113 (nI t) z = some ((if s + i ≤ s then 0 else 1), (upd z.1 1 (nI t), z.2)) := by
        intro t
        unfold f_X4_takeNumber_113
        rw [lett_d]
        have a3 : (upd z.1 1 (nI t), z.2).1 3 = nI (s + i) := (show upd z.1 1 (nI t) 3 = z.1 3 from up_n (by omega)).trans y3
        have a2 : (upd z.1 1 (nI t), z.2).1 2 = nI s := (show upd z.1 1 (nI t) 2 = z.1 2 from up_n (by omega)).trans y2
        have le : ((upd z.1 1 (nI t), z.2).1 3 ≤ (upd z.1 1 (nI t), z.2).1 2) = (s + i ≤ s) := by rw [a2, a3]; exact leN (by omega) (by omega)
        by_cases q : s + i ≤ s
        · rw [if_pos (le.mpr q), if_pos q]
        · rw [if_neg (fun x => q (le.mp x)), if_neg q]
      have post : ∀ t : Nat, nI t = (if 5 < s + i - s then nI 4 else nI 2) → ok (fun r : Int32 × Tx => ∃ e, EndR m ch 2 s e ∧ r.1 = (if e ≤ s then 0 else 1) ∧ r.2.2 = X.2 ∧ r.2.1 0 = nI m ∧ r.2.1 1 = (if 5 < e - s then nI 4 else nI 2) ∧ r.2.1 2 = nI s ∧ r.2.1 3 = nI e ∧ r.2.1 4 = nI (digN ch s (min 5 (e - s)))) (f_X4_takeNumber_113 (nI t) z) := by
        intro t ht
        rw [e13]
        refine ok_s ⟨s + i, ⟨by omega, by omega, hl, hne⟩, rfl, z2, ?_, ?_, ?_, ?_, ?_⟩
        · exact (show upd z.1 1 (nI t) 0 = z.1 0 from up_n (by omega)).trans y0
        · exact (show upd z.1 1 (nI t) 1 = nI t from up_s).trans ht
        · exact (show upd z.1 1 (nI t) 2 = z.1 2 from up_n (by omega)).trans y2
        · exact (show upd z.1 1 (nI t) 3 = z.1 3 from up_n (by omega)).trans y3
        · rw [show s + i - s = i by omega]
          exact (show upd z.1 1 (nI t) 4 = z.1 4 from up_n (by omega)).trans y4
      unfold f_X4_takeNumber_94
      have lt : ((5 : Int32) < z.1 3 - z.1 2) = (5 < s + i - s) := by rw [y2, y3, subN (by omega)]; exact ltN (a := 5) (by omega) (by omega)
      by_cases q : 5 < s + i - s
      · rw [if_pos (lt.mpr q)]; exact post 4 (by rw [if_pos q])
      · rw [if_neg (fun x => q (lt.mp x))]; exact post 2 (by rw [if_neg q])
    by_cases hlt : i < m - s
    · have hb : z.2 (s + i) = nI (ch (s + i)) := by rw [z2]; exact hx _ (by omega)
      have hc' := hc (s + i) (by omega)
      have l48 : (nI (ch (s + i)) < (48 : Int32)) = (ch (s + i) < 48) := ltN (b := 48) (by omega) (by omega)
      have l57 : ((57 : Int32) < nI (ch (s + i))) = (57 < ch (s + i)) := ltN (a := 57) (by omega) (by omega)
      have l5 : ((5 : Int32) ≤ nI (s + i) - z.1 2) = (5 ≤ i) := by rw [y2, subN (by omega), show s + i - s = i by omega]; exact leN (a := 5) (by omega) (by omega)
      by_cases q : srt (ch (s + i)) = 2
      · left
        have d := srt_2.mp q
        by_cases h5 : 5 ≤ i
        · refine ⟨hlt, (upd z.1 3 (nI (s + i + 1)), z.2), ⟨z2, ?_, ?_, ?_, ?_, fun j a c => ?_⟩, fun k => ?_⟩
          · exact (show upd z.1 3 (nI (s + i + 1)) 0 = z.1 0 from up_n (by omega)).trans y0
          · exact (show upd z.1 3 (nI (s + i + 1)) 2 = z.1 2 from up_n (by omega)).trans y2
          · exact (show upd z.1 3 (nI (s + i + 1)) 3 = nI (s + (i + 1)) from up_s)
          · rw [show min 5 (i + 1) = min 5 i by omega]
            exact (show upd z.1 3 (nI (s + i + 1)) 4 = z.1 4 from up_n (by omega)).trans y4
          · by_cases e : j = s + i
            · rw [e]; exact q
            · exact hl j a (by omega)
          · show f_X4_takeNumber_5 z _ _ = _
            unfold f_X4_takeNumber_5 f_X4_takeNumber_81
            rw [if_neg (by rw [y0, y3, leN (by omega) (by omega)]; omega), y3, gi_n (by omega) (by omega), clN (by omega), hb, if_neg (fun x => absurd (l48.mp x) (by omega)), gi_n (by omega) (by omega), if_neg (fun x => absurd (l57.mp x) (by omega)), if_pos (l5.mpr h5), lett_d, show nI (s + i) + 1 = nI (s + i + 1) from nI_add _ 1]
        · have e5 : min 5 i = i := by omega
          have dl := digN_le hl i (Nat.le_refl _)
          have p4 : (10 : Nat) ^ i ≤ 10 ^ 4 := Nat.pow_le_pow_right (by omega) (by omega)
          have p4' : (10 : Nat) ^ 4 = 10000 := rfl
          rw [e5] at y4
          refine ⟨hlt, (upd (upd z.1 4 (nI (digN ch s (i + 1)))) 3 (nI (s + i + 1)), z.2), ⟨z2, ?_, ?_, ?_, ?_, fun j a c => ?_⟩, fun k => ?_⟩
          · exact (show upd (upd z.1 4 (nI (digN ch s (i + 1)))) 3 (nI (s + i + 1)) 0 = z.1 0 by rw [up_n (by omega), up_n (by omega)]).trans y0
          · exact (show upd (upd z.1 4 (nI (digN ch s (i + 1)))) 3 (nI (s + i + 1)) 2 = z.1 2 by rw [up_n (by omega), up_n (by omega)]).trans y2
          · exact (show upd (upd z.1 4 (nI (digN ch s (i + 1)))) 3 (nI (s + i + 1)) 3 = nI (s + (i + 1)) from up_s)
          · rw [show min 5 (i + 1) = i + 1 by omega]
            exact (show upd (upd z.1 4 (nI (digN ch s (i + 1)))) 3 (nI (s + i + 1)) 4 = nI (digN ch s (i + 1)) by rw [up_n (by omega), up_s])
          · by_cases e : j = s + i
            · rw [e]; exact q
            · exact hl j a (by omega)
          · show f_X4_takeNumber_5 z _ _ = _
            unfold f_X4_takeNumber_5 f_X4_takeNumber_81
            rw [if_neg (by rw [y0, y3, leN (by omega) (by omega)]; omega), y3, gi_n (by omega) (by omega), clN (by omega), hb, if_neg (fun x => absurd (l48.mp x) (by omega)), gi_n (by omega) (by omega), if_neg (fun x => absurd (l57.mp x) (by omega)), if_neg (fun x => h5 (l5.mp x)), gi_n (by omega) (by omega), lett_d, y4, show (10 : Int32) = nI 10 from rfl, pk_mul, show nI (ch (s + i)) - 48 = nI (ch (s + i) - 48) from subN (b := 48) (by omega), nI_add, lett_d]
            have a3 : (upd z.1 4 (nI (digN ch s i * 10 + (ch (s + i) - 48))), z.2).1 3 = nI (s + i) := (show upd z.1 4 (nI (digN ch s i * 10 + (ch (s + i) - 48))) 3 = z.1 3 from up_n (by omega)).trans y3
            rw [a3, show nI (s + i) + 1 = nI (s + i + 1) from nI_add _ 1]
            rfl
      · right
        refine ⟨f_X4_takeNumber_94 z, fin (fun _ => q), fun k => ?_⟩
        show f_X4_takeNumber_5 z _ _ = _
        unfold f_X4_takeNumber_5
        rw [if_neg (by rw [y0, y3, leN (by omega) (by omega)]; omega), y3, gi_n (by omega) (by omega), clN (by omega), hb]
        by_cases r : ch (s + i) < 48
        · rw [if_pos (l48.mpr r)]
        · rw [if_neg (fun x => r (l48.mp x)), gi_n (by omega) (by omega), if_pos (l57.mpr (Nat.lt_of_not_le (fun x => q (srt_2.mpr (by omega)))))]
    · right
      refine ⟨f_X4_takeNumber_94 z, fin (fun h => by omega), fun k => ?_⟩
      show f_X4_takeNumber_5 z _ _ = _
      unfold f_X4_takeNumber_5
      rw [if_pos (by rw [y0, y3, leN (by omega) (by omega)]; omega)]
  · exact (show upd X.1 4 (nI 0) 0 = X.1 0 from up_n (by omega)).trans x0
  · exact (show upd X.1 4 (nI 0) 2 = X.1 2 from up_n (by omega)).trans x2
  · exact (show upd X.1 4 (nI 0) 3 = X.1 3 from up_n (by omega)).trans x3
  · exact (show upd X.1 4 (nI 0) 4 = nI 0 from up_s)
