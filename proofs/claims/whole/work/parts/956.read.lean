/-! PURE: a town told by a text. -/
theorem may0 {i : Nat} (hi : i < 1000) (M : Ms) : f_X8_mayBegin (nI 0) (nI i) M = some (if i = 0 then 1 else 0) := by
  unfold f_X8_mayBegin f_X8_mayBegin_14 f_X8_mayBegin_23 f_X8_mayBegin_72
  rw [if_neg (show ¬ nI 0 = -1 by decide), if_pos (show nI 0 = 0 from rfl)]
  have e : (nI i = (0 : Int32)) = (i = 0) := eqN (b := 0) (by omega) (by omega)
  by_cases c : i = 0
  · rw [if_pos (e.mpr c), if_pos rfl, if_pos (show nI 0 < 2 by decide), if_pos c]
  · rw [if_neg (fun x => c (e.mp x)), if_neg (show ¬ (1 : Int32) = 0 by decide), if_neg c]
theorem may1 {i : Nat} (hi : i < 1000) (M : Ms) : f_X8_mayBegin (nI 1) (nI i) M = some (if i = 0 then 0 else 1) := by
  unfold f_X8_mayBegin f_X8_mayBegin_14 f_X8_mayBegin_23 f_X8_mayBegin_72
  rw [if_neg (show ¬ nI 1 = -1 by decide), if_neg (show ¬ nI 1 = 0 by decide)]
  have e : (nI i = (0 : Int32)) = (i = 0) := eqN (b := 0) (by omega) (by omega)
  by_cases c : i = 0
  · rw [if_pos (e.mpr c), if_neg (show ¬ (0 : Int32) = 1 by decide), if_pos c]
  · rw [if_neg (fun x => c (e.mp x)), if_pos rfl, if_pos (show nI 1 < 2 by decide), if_neg c]
theorem may_n {i q j mx n : Nat} (hi : i < 1000) {M : Ms} (hq : q = 2 ∧ j = 3 ∧ mx = 6 ∨ q = 3 ∧ j = 4 ∧ mx = 8 ∨ q = 4 ∧ j = 5 ∧ mx = 8) (hd : M.2.2 2 j = nI n) (hn : n ≤ 8) : f_X8_mayBegin (nI q) (nI i) M = some (if i = 0 then 0 else if mx ≤ n then 0 else 1) := by
  unfold f_X8_mayBegin f_X8_mayBegin_14 f_X8_mayBegin_23 f_X8_mayBegin_56 f_X8_mayBegin_69 f_X8_mayBegin_72
  have e : (nI i = (0 : Int32)) = (i = 0) := eqN (b := 0) (by omega) (by omega)
  have le : (nI mx ≤ nI n) = (mx ≤ n) := leN (by omega) (by omega)
  rcases hq with ⟨rfl, rfl, rfl⟩ | ⟨rfl, rfl, rfl⟩ | ⟨rfl, rfl, rfl⟩
  · rw [if_neg (show ¬ nI 2 = -1 by decide), if_neg (show ¬ nI 2 = 0 by decide)]
    by_cases c : i = 0
    · rw [if_pos (e.mpr c), if_neg (show ¬ (0 : Int32) = 1 by decide), if_pos c]
    · rw [if_neg (fun x => c (e.mp x)), if_pos rfl, if_neg (show ¬ nI 2 < 2 by decide), if_pos (show nI 2 = 2 from rfl), if_pos (show nI 2 = 2 from rfl), show (3 : Int32) = nI 3 from rfl, gi_n (by omega) (by omega), clN (j := 3) (by omega), hd, if_neg c]
      by_cases r : 6 ≤ n
      · rw [if_pos (show (6 : Int32) ≤ nI n from le.mpr r), if_pos r]
      · rw [if_neg (show ¬ (6 : Int32) ≤ nI n from fun x => r (le.mp x)), if_neg r]
  · rw [if_neg (show ¬ nI 3 = -1 by decide), if_neg (show ¬ nI 3 = 0 by decide)]
    by_cases c : i = 0
    · rw [if_pos (e.mpr c), if_neg (show ¬ (0 : Int32) = 1 by decide), if_pos c]
    · rw [if_neg (fun x => c (e.mp x)), if_pos rfl, if_neg (show ¬ nI 3 < 2 by decide), if_neg (show ¬ nI 3 = 2 by decide), if_pos (show nI 3 = 3 from rfl), if_neg (show ¬ nI 3 = 2 by decide), show (4 : Int32) = nI 4 from rfl, gi_n (by omega) (by omega), clN (j := 4) (by omega), hd, if_neg c]
      by_cases r : 8 ≤ n
      · rw [if_pos (show (8 : Int32) ≤ nI n from le.mpr r), if_pos r]
      · rw [if_neg (show ¬ (8 : Int32) ≤ nI n from fun x => r (le.mp x)), if_neg r]
  · rw [if_neg (show ¬ nI 4 = -1 by decide), if_neg (show ¬ nI 4 = 0 by decide)]
    by_cases c : i = 0
    · rw [if_pos (e.mpr c), if_neg (show ¬ (0 : Int32) = 1 by decide), if_pos c]
    · rw [if_neg (fun x => c (e.mp x)), if_pos rfl, if_neg (show ¬ nI 4 < 2 by decide), if_neg (show ¬ nI 4 = 2 by decide), if_neg (show ¬ nI 4 = 3 by decide), if_neg (show ¬ nI 4 = 2 by decide), show (5 : Int32) = nI 5 from rfl, gi_n (by omega) (by omega), clN (j := 5) (by omega), hd, if_neg c]
      by_cases r : 8 ≤ n
      · rw [if_pos (show (8 : Int32) ≤ nI n from le.mpr r), if_pos r]
      · rw [if_neg (show ¬ (8 : Int32) ≤ nI n from fun x => r (le.mp x)), if_neg r]
/-- a fault, at the same place -/
def BADP (m : Nat) (X : Tx) (M : Ms) (X' : Tx) (M' : Ms) : Prop := kx X X' M M' ∧ X'.1 0 = nI m ∧ M'.1 0 = nI m ∧ ∃ s, X'.1 2 = nI s ∧ M'.1 2 = nI s ∧ s ≤ m
/-- an item of both, or a fault of both -/
def STEP (b m : Nat) (ch : Nat → Nat) (a : Nat) (D0 : AT) (X : Tx) (M : Ms) (i : Nat) (c : (Int32 → Tx → Tw → Option (Int32 × Tx × Tw)) → (Tx → Tw → Option (Int32 × Tx × Tw)) → Option (Int32 × Tx × Tw)) (r : (Int32 → Ms → Option (Int32 × Ms)) → Option (Int32 × Ms)) : Prop :=
  (∃ X' T' M' M3 e D, (∀ K11 K75, c K11 K75 = K11 (nI (i + 1)) X' T') ∧ (∀ K33, r K33 = K33 (nI (i + 1)) M3) ∧ f_X8_token M' = some M3 ∧ kx X X' M M' ∧ RD m ch e X' M' ∧ a ≤ e ∧ DR b D T' M' ∧ D.2 10 = D0.2 10) ∨ (∃ X' T' M', (∀ K11 K75, c K11 K75 = K75 X' T') ∧ (∀ K33, r K33 = some (-1, M')) ∧ BADP m X M X' M')
theorem step_of {b m a i q : Nat} {ch : Nat → Nat} {D0 : AT} {X : Tx} {M : Ms} {cc : Option (Int32 × Tx × Tw)} (hi : i < 1000) (hit : f_X8_item M = some (nI q)) (hmay : f_X8_mayBegin (nI q) (nI i) M = some 1) (ho : OUT b m ch a D0 X M cc (f_X8_readsItem (nI q) M)) (c : (Int32 → Tx → Tw → Option (Int32 × Tx × Tw)) → (Tx → Tw → Option (Int32 × Tx × Tw)) → Option (Int32 × Tx × Tw)) (hc1 : ∀ X' T', cc = some (1, X', T') → ∀ K11 K75, c K11 K75 = K11 (nI (i + 1)) X' T') (hc0 : ∀ X' T', cc = some (0, X', T') → ∀ K11 K75, c K11 K75 = K75 X' T') : STEP b m ch a D0 X M i c (fun K33 => f_X8_reads_44 (nI i) M K33) := by
  rcases ho with ⟨X', T', M1, M', e, D, e1, e2, e3, e4, e5, e6, e7, e8, e9⟩ | ⟨X', T', M', s, e1, e2, e3, e4, e5, e6, e7, e8⟩ | ⟨X', T', M1, M', s, e1, e2, e3, e4, e5, e6, e7, e8, e9, e10⟩
  · left
    obtain ⟨X2, M3, _, _, _, _, t2, _⟩ := step_rd e6
    refine ⟨X', T', M', M3, e, D, hc1 X' T' e1, fun K33 => ?_, t2, e5, e6, e7, e8, e9⟩
    show f_X8_reads_44 (nI i) M K33 = _
    unfold f_X8_reads_44
    rw [hit, bn_s, hmay, bn_s, if_neg i10, e2, bn_s, if_neg i10, e3, bn_s, if_pos e4, lett_d, t2, bn_s, show nI i + 1 = nI (i + 1) from nI_add i 1]
  · right
    refine ⟨X', T', M', hc0 X' T' e1, fun K33 => ?_, e3, e4, e5, s, e6, e7, e8⟩
    show f_X8_reads_44 (nI i) M K33 = _
    unfold f_X8_reads_44
    rw [hit, bn_s, hmay, bn_s, if_neg i10, e2, bn_s, if_pos rfl]
  · right
    refine ⟨X', T', M', hc0 X' T' e1, fun K33 => ?_, e5, e6, e7, s, e8, e9, e10⟩
    show f_X8_reads_44 (nI i) M K33 = _
    unfold f_X8_reads_44
    rw [hit, bn_s, hmay, bn_s, if_neg i10, e2, bn_s, if_neg i10, e3, bn_s, if_neg e4]
theorem item_step {b m a i s e k : Nat} {ch : Nat → Nat} {D : AT} {X : Tx} {M : Ms} {T : Tw} (hR : RD m ch e X M) (hK : TK m ch s e k X M) (hD : DR b D T M) (hi : i < 1000) (ha : a ≤ e) : STEP b m ch a D X M i (fun K11 K75 => f_X4_readTown_36 (nI i) X T K11 K75) (fun K33 => f_X8_reads_44 (nI i) M K33) := by
  have zi : (nI i = (0 : Int32)) = (i = 0) := eqN (b := 0) (by omega) (by omega)
  have w := fun q hq => s_isWord (i := q) hq hR.1 hK
  obtain ⟨dT, dM, dO⟩ := id hD
  have o4 := dO.2.2.2.2.1
  have o5 := dO.2.2.2.2.2.1
  have o6 := dO.2.2.2.2.2.2.1
  have c4 : T.1 4 = nI (D.1 4) := dT.1 4 (by omega)
  have c5 : T.1 5 = nI (D.1 5) := dT.1 5 (by omega)
  have c6 : T.1 6 = nI (D.1 6) := dT.1 6 (by omega)
  have g4 : M.2.2 2 3 = nI (D.1 4) := dM.2.1 4 (by omega)
  have g5 : M.2.2 2 4 = nI (D.1 5) := dM.2.1 5 (by omega)
  have g6 : M.2.2 2 5 = nI (D.1 6) := dM.2.1 6 (by omega)
  have le4 : ((6 : Int32) ≤ T.1 4) = (6 ≤ D.1 4) := by rw [c4]; exact leN (a := 6) (by omega) (by omega)
  have le5 : ((8 : Int32) ≤ T.1 5) = (8 ≤ D.1 5) := by rw [c5]; exact leN (a := 8) (by omega) (by omega)
  have le6 : ((8 : Int32) ≤ T.1 6) = (8 ≤ D.1 6) := by rw [c6]; exact leN (a := 8) (by omega) (by omega)
  have nxt : nI i + 1 = nI (i + 1) := nI_add i 1
  -- a fault at once
  have bad0 : ∀ {it : Int32}, f_X8_item M = some it → f_X8_mayBegin it (nI i) M = some 0 → (∀ K11 K75, f_X4_readTown_36 (nI i) X T K11 K75 = K75 X T) → STEP b m ch a D X M i (fun K11 K75 => f_X4_readTown_36 (nI i) X T K11 K75) (fun K33 => f_X8_reads_44 (nI i) M K33) := by
    intro it h1 h2 h3
    right
    refine ⟨X, T, M, h3, fun K33 => ?_, ⟨rfl, rfl, fun _ _ => rfl⟩, hR.1.2.1, hR.1.2.2.1, s, hK.2.2.1, hK.2.2.2.2.2.1, by have := hK.1; have := hK.2.1; omega⟩
    show f_X8_reads_44 (nI i) M K33 = _
    unfold f_X8_reads_44
    rw [h1, bn_s, h2, bn_s, if_pos rfl]
  rcases item_both hR.1 hK with ⟨q, hq, hit, hw, hno⟩ | ⟨hit, hno⟩
  · by_cases i0 : i = 0
    · -- the first item
      by_cases q0 : q = 0
      · subst q0
        have may : f_X8_mayBegin (nI 0) (nI i) M = some 1 := by rw [may0 hi, if_pos i0]
        have w0 := (w 0 (by omega)).1 hw
        refine step_of hi hit may (by
          rcases chest_both (a := e) hR hD with x | x | x
          · obtain ⟨X', T', M1, M', e', D', e1, e2, e3, e4, e5, e6, e7, e8, e9⟩ := x
            exact Or.inl ⟨X', T', M1, M', e', D', e1, e2, e3, e4, e5, e6, by omega, e8, e9⟩
          · exact Or.inr (Or.inl x)
          · exact Or.inr (Or.inr x)) _ (fun X' T' ec K11 K75 => ?_) (fun X' T' ec K11 K75 => ?_)
        · show f_X4_readTown_36 (nI i) X T K11 K75 = _
          unfold f_X4_readTown_36 f_X4_readTown_70
          rw [if_pos (zi.mpr i0), w0, bn_s, if_neg i10, ec, bn_s, if_neg i10, if_neg i10, lett_d, nxt]
        · show f_X4_readTown_36 (nI i) X T K11 K75 = _
          unfold f_X4_readTown_36 f_X4_readTown_61 f_X4_readTown_70
          rw [if_pos (zi.mpr i0), w0, bn_s, if_neg i10, ec, bn_s, if_pos rfl, if_pos rfl]
      · have w0 := (w 0 (by omega)).2 (hno 0 (by omega) (fun h => q0 h.symm))
        refine bad0 hit ?_ (fun K11 K75 => ?_)
        · have hq' : q = 1 ∨ q = 2 ∨ q = 3 ∨ q = 4 := by omega
          rcases hq' with r | r | r | r
          · subst r; rw [may1 hi, if_pos i0]
          · subst r; rw [may_n (q := 2) (j := 3) (mx := 6) hi (by omega) g4 (by omega), if_pos i0]
          · subst r; rw [may_n (q := 3) (j := 4) (mx := 8) hi (by omega) g5 (by omega), if_pos i0]
          · subst r; rw [may_n (q := 4) (j := 5) (mx := 8) hi (by omega) g6 (by omega), if_pos i0]
        · unfold f_X4_readTown_36 f_X4_readTown_61 f_X4_readTown_70
          rw [if_pos (zi.mpr i0), w0, bn_s, if_pos rfl, if_pos rfl]
    · have i1 : ¬ nI i = (0 : Int32) := fun x => i0 (zi.mp x)
      have hq' : q = 0 ∨ q = 1 ∨ q = 2 ∨ q = 3 ∨ q = 4 := by omega
      rcases hq' with r | r | r | r | r
      · -- a second chest
        subst r
        refine bad0 hit (by rw [may0 hi, if_neg i0]) (fun K11 K75 => ?_)
        unfold f_X4_readTown_36 f_X4_laterItem f_X4_readTown_70
        rw [if_neg i1, (w 1 (by omega)).2 (hno 1 (by omega) (by omega)), bn_s, if_pos rfl, (w 2 (by omega)).2 (hno 2 (by omega) (by omega)), bn_s, if_pos rfl, (w 3 (by omega)).2 (hno 3 (by omega) (by omega)), bn_s, if_pos rfl, (w 4 (by omega)).2 (hno 4 (by omega) (by omega)), bn_s, if_pos rfl, bn_s, if_pos rfl]
      · subst r
        have may : f_X8_mayBegin (nI 1) (nI i) M = some 1 := by rw [may1 hi, if_neg i0]
        have w1 := (w 1 (by omega)).1 hw
        refine step_of hi hit may (by
          rcases rate_both (a := e) hR hD with x | x | x
          · obtain ⟨X', T', M1, M', e', D', e1, e2, e3, e4, e5, e6, e7, e8, e9⟩ := x
            exact Or.inl ⟨X', T', M1, M', e', D', e1, e2, e3, e4, e5, e6, by omega, e8, e9⟩
          · exact Or.inr (Or.inl x)
          · exact Or.inr (Or.inr x)) _ (fun X' T' ec K11 K75 => ?_) (fun X' T' ec K11 K75 => ?_)
        · show f_X4_readTown_36 (nI i) X T K11 K75 = _
          unfold f_X4_readTown_36 f_X4_laterItem f_X4_readTown_70
          rw [if_neg i1, w1, bn_s, if_neg i10, ec, bn_s, bn_s, if_neg i10, lett_d, nxt]
        · show f_X4_readTown_36 (nI i) X T K11 K75 = _
          unfold f_X4_readTown_36 f_X4_laterItem f_X4_readTown_70
          rw [if_neg i1, w1, bn_s, if_neg i10, ec, bn_s, bn_s, if_pos rfl]
      · subst r
        have w1 := (w 1 (by omega)).2 (hno 1 (by omega) (by omega))
        have w2 := (w 2 (by omega)).1 hw
        by_cases full : 6 ≤ D.1 4
        · refine bad0 hit (by rw [may_n (q := 2) (j := 3) (mx := 6) hi (by omega) g4 (by omega), if_neg i0, if_pos full]) (fun K11 K75 => ?_)
          unfold f_X4_readTown_36 f_X4_laterItem f_X4_readTown_70
          rw [if_neg i1, w1, bn_s, if_pos rfl, w2, bn_s, if_neg i10, if_pos (le4.mpr full), bn_s, if_pos rfl]
        · have may : f_X8_mayBegin (nI 2) (nI i) M = some 1 := by rw [may_n (q := 2) (j := 3) (mx := 6) hi (by omega) g4 (by omega), if_neg i0, if_neg full]
          refine step_of hi hit may (by
            rcases person_both (a := e) hR hD (by omega) with x | x | x
            · obtain ⟨X', T', M1, M', e', D', e1, e2, e3, e4, e5, e6, e7, e8, e9⟩ := x
              exact Or.inl ⟨X', T', M1, M', e', D', e1, e2, e3, e4, e5, e6, by omega, e8, e9⟩
            · exact Or.inr (Or.inl x)
            · exact Or.inr (Or.inr x)) _ (fun X' T' ec K11 K75 => ?_) (fun X' T' ec K11 K75 => ?_)
          · show f_X4_readTown_36 (nI i) X T K11 K75 = _
            unfold f_X4_readTown_36 f_X4_laterItem f_X4_readTown_70
            rw [if_neg i1, w1, bn_s, if_pos rfl, w2, bn_s, if_neg i10, if_neg (fun x => full (le4.mp x)), ec, bn_s, if_neg i10, bn_s, if_neg i10, lett_d, nxt]
          · show f_X4_readTown_36 (nI i) X T K11 K75 = _
            unfold f_X4_readTown_36 f_X4_laterItem f_X4_readTown_70
            rw [if_neg i1, w1, bn_s, if_pos rfl, w2, bn_s, if_neg i10, if_neg (fun x => full (le4.mp x)), ec, bn_s, if_pos rfl, bn_s, if_pos rfl]
      · subst r
        have w1 := (w 1 (by omega)).2 (hno 1 (by omega) (by omega))
        have w2 := (w 2 (by omega)).2 (hno 2 (by omega) (by omega))
        have w3 := (w 3 (by omega)).1 hw
        by_cases full : 8 ≤ D.1 5
        · refine bad0 hit (by rw [may_n (q := 3) (j := 4) (mx := 8) hi (by omega) g5 (by omega), if_neg i0, if_pos full]) (fun K11 K75 => ?_)
          unfold f_X4_readTown_36 f_X4_laterItem f_X4_readTown_70
          rw [if_neg i1, w1, bn_s, if_pos rfl, w2, bn_s, if_pos rfl, w3, bn_s, if_neg i10, if_pos (le5.mpr full), bn_s, if_pos rfl]
        · have may : f_X8_mayBegin (nI 3) (nI i) M = some 1 := by rw [may_n (q := 3) (j := 4) (mx := 8) hi (by omega) g5 (by omega), if_neg i0, if_neg full]
          refine step_of hi hit may (by
            rcases loan_both (a := e) hR hD (by omega) with x | x | x
            · obtain ⟨X', T', M1, M', e', D', e1, e2, e3, e4, e5, e6, e7, e8, e9⟩ := x
              exact Or.inl ⟨X', T', M1, M', e', D', e1, e2, e3, e4, e5, e6, by omega, e8, e9⟩
            · exact Or.inr (Or.inl x)
            · exact Or.inr (Or.inr x)) _ (fun X' T' ec K11 K75 => ?_) (fun X' T' ec K11 K75 => ?_)
          · show f_X4_readTown_36 (nI i) X T K11 K75 = _
            unfold f_X4_readTown_36 f_X4_laterItem f_X4_readTown_70
            rw [if_neg i1, w1, bn_s, if_pos rfl, w2, bn_s, if_pos rfl, w3, bn_s, if_neg i10, if_neg (fun x => full (le5.mp x)), ec, bn_s, if_neg i10, bn_s, if_neg i10, lett_d, nxt]
          · show f_X4_readTown_36 (nI i) X T K11 K75 = _
            unfold f_X4_readTown_36 f_X4_laterItem f_X4_readTown_70
            rw [if_neg i1, w1, bn_s, if_pos rfl, w2, bn_s, if_pos rfl, w3, bn_s, if_neg i10, if_neg (fun x => full (le5.mp x)), ec, bn_s, if_pos rfl, bn_s, if_pos rfl]
      · subst r
        have w1 := (w 1 (by omega)).2 (hno 1 (by omega) (by omega))
        have w2 := (w 2 (by omega)).2 (hno 2 (by omega) (by omega))
        have w3 := (w 3 (by omega)).2 (hno 3 (by omega) (by omega))
        have w4 := (w 4 (by omega)).1 hw
        by_cases full : 8 ≤ D.1 6
        · refine bad0 hit (by rw [may_n (q := 4) (j := 5) (mx := 8) hi (by omega) g6 (by omega), if_neg i0, if_pos full]) (fun K11 K75 => ?_)
          unfold f_X4_readTown_36 f_X4_laterItem f_X4_readTown_70
          rw [if_neg i1, w1, bn_s, if_pos rfl, w2, bn_s, if_pos rfl, w3, bn_s, if_pos rfl, w4, bn_s, if_neg i10, if_pos (le6.mpr full), bn_s, if_pos rfl]
        · have may : f_X8_mayBegin (nI 4) (nI i) M = some 1 := by rw [may_n (q := 4) (j := 5) (mx := 8) hi (by omega) g6 (by omega), if_neg i0, if_neg full]
          refine step_of hi hit may (by
            rcases offer_both (a := e) hR hD (by omega) with x | x | x
            · obtain ⟨X', T', M1, M', e', D', e1, e2, e3, e4, e5, e6, e7, e8, e9⟩ := x
              exact Or.inl ⟨X', T', M1, M', e', D', e1, e2, e3, e4, e5, e6, by omega, e8, e9⟩
            · exact Or.inr (Or.inl x)
            · exact Or.inr (Or.inr x)) _ (fun X' T' ec K11 K75 => ?_) (fun X' T' ec K11 K75 => ?_)
          · show f_X4_readTown_36 (nI i) X T K11 K75 = _
            unfold f_X4_readTown_36 f_X4_laterItem f_X4_readTown_70
            rw [if_neg i1, w1, bn_s, if_pos rfl, w2, bn_s, if_pos rfl, w3, bn_s, if_pos rfl, w4, bn_s, if_neg i10, if_neg (fun x => full (le6.mp x)), ec, bn_s, if_neg i10, bn_s, if_neg i10, lett_d, nxt]
          · show f_X4_readTown_36 (nI i) X T K11 K75 = _
            unfold f_X4_readTown_36 f_X4_laterItem f_X4_readTown_70
            rw [if_neg i1, w1, bn_s, if_pos rfl, w2, bn_s, if_pos rfl, w3, bn_s, if_pos rfl, w4, bn_s, if_neg i10, if_neg (fun x => full (le6.mp x)), ec, bn_s, if_pos rfl, bn_s, if_pos rfl]
  · have mayN : f_X8_mayBegin (-1) (nI i) M = some 0 := by unfold f_X8_mayBegin; rw [if_pos rfl]
    refine bad0 hit mayN (fun K11 K75 => ?_)
    by_cases i0 : i = 0
    · unfold f_X4_readTown_36 f_X4_readTown_61 f_X4_readTown_70
      rw [if_pos (zi.mpr i0), (w 0 (by omega)).2 (hno 0 (by omega)), bn_s, if_pos rfl, if_pos rfl]
    · unfold f_X4_readTown_36 f_X4_laterItem f_X4_readTown_70
      rw [if_neg (fun x => i0 (zi.mp x)), (w 1 (by omega)).2 (hno 1 (by omega)), bn_s, if_pos rfl, (w 2 (by omega)).2 (hno 2 (by omega)), bn_s, if_pos rfl, (w 3 (by omega)).2 (hno 3 (by omega)), bn_s, if_pos rfl, (w 4 (by omega)).2 (hno 4 (by omega)), bn_s, if_pos rfl, bn_s, if_pos rfl]
