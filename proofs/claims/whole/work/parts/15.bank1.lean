theorem in_X7_bad_X7 : ∀ w ∈ wsX70, w ∈ wsX7_bad := by decide +kernel
def f_X7_bad  (B : Nat → Int32) : Option (Int32 × (Nat → Int32)) :=
  lett (upd B 0 (((B 0) + (1 : Int32)))) fun B_7 =>
  some ((-2 : Int32), B_7)
set_option maxHeartbeats 4000000 in
set_option maxRecDepth 100000 in
theorem c_X7_bad (l : Launch) (dC : Nat → ClassId) (dI : Nat → Nat → Nat) (cs : Nat → ClassId) (g : Nat → Nat) (sz : Nat) (B : Nat → Int32)  (res : Int32 × (Nat → Int32)) (hf : f_X7_bad B = some res) : Met l yX7_bad wsX7_bad ({ frames := 0, cells := 0, slots := 0, locals := 0 }) (va_Pc [.ref (g 0)] (fun U => U.heap.size = sz ∧ va_P (dC, dI) vwCl (wB g B) U.heap ∧ GE dC dI cs U ∧ va_D (fun _ => True) (wB g B))) (va_Qi (fun r (u : (Nat → Int32)) => r = res.1 ∧ u = res.2) (fun u t => va_P (dC, dI) vwCl ((fun u : (Nat → Int32) => (wB g u)) u) t.heap ∧ va_D (va_A (wB g B) sz) ((fun u : (Nat → Int32) => (wB g u)) u)) (va_A (wB g B) sz)) 0 0 (va_A (wB g B) sz) := by
  refine Met.ofW (cc := cX7_bad) (maxL := 1) (ret := (some .int)) (by decide) rfl ?_
  intro p e s m args below meth c s₁ Bd hml hv
  obtain ⟨rfl, hsz, hP, G, hD0⟩ := hv
  have hts := atoms_spec (ws := wsX7_bad) Bd.pre
  have hown : s.vm.findClass RX7 = some m.cls := findClass_of_methodNamed Bd.named
  have hlocks := Bd.notSynchronized
  have hx := Bd.exec
  have hb := Bd.bytes
  have hr := Bd.returns
  have C : CallFix p m c cX7_bad 1 s _ wsX7_bad RX7 := ⟨hx, hb, hml, hown, hts⟩
  obtain ⟨hK, hN⟩ := id G
  subst hsz
  have hD := hD0.self (sz := s.heap.size)
  generalize hAe : va_A (wB g B) s.heap.size = A at hD ⊢
  have hA : ∀ q : Nat, s.heap.size ≤ q → A q := fun q h => by rw [← hAe]; exact Or.inr h
  have hS : va_S A s.heap s.heap [] := va_S.rf
  have hR : RTi p l e ({ frames := 0, cells := 0, slots := 0, locals := 0 }) s m ([.ref (g 0)] : List Value).toArray below meth c cX7_bad (MQ below (va_Qi (fun r (u : (Nat → Int32)) => r = res.1 ∧ u = res.2) (fun u t => va_P (dC, dI) vwCl ((fun u : (Nat → Int32) => (wB g u)) u) t.heap ∧ va_D A ((fun u : (Nat → Int32) => (wB g u)) u)) A) ([.ref (g 0)] : List Value).toArray s 0 0 A) (dC, dI) A (fun u : (Nat → Int32) => (wB g u)) res := fun H locs pc ls r u dd h hP hD hS => W.iret hx hb hr (fun t ht hW => ⟨⟨r, u, rfl, by cases h; exact ⟨rfl, rfl⟩, by rw [ht]; exact hP, hD⟩, hS.F ht⟩) hS.2.2 dd
  have hl := lv_entry ([.ref (g 0)]) (n := 1) (Nat.le_of_ble_eq_true rfl)
  rw [lg_entry_eq]
  generalize (lg_sl ([.ref (g 0)]) ++ List.replicate (1 - (lg_sl ([.ref (g 0)])).length) Slot.unset).toArray = ls at hl ⊢
  have hl : lv_has ls 1 [(0, .ref (g 0))] := hl
  unfold f_X7_bad at hf
  refine lv_aload_n hx hb dX7_bad_0 rfl (lv_at hl 0 rfl) ?_
  refine lv_dup hx hb dX7_bad_1 rfl ?_
  refine va_get (D := (dC, dI)) (ci := 7) (v := .int ((B 0))) (C := RX7) (T := TX7) (N := 11) hx hb hts in_X7_bad_X7 hown hK hP 0 rfl rfl 8 (by decide) (hts (.fieldLink RX7 284 "BackLoans" "refusedBad" "I") (by decide +kernel)) (fun _ h9 => h9) rfl dX7_bad_2 ?_
  refine lv_iconst (v := 1) hx hb dX7_bad_5 (by decide) ?_
  refine lv_iadd hx hb dX7_bad_6 ?_
  refine va_put (D := (dC, dI)) (ci := 7) (v := .int (((B 0) + (1 : Int32)))) (ty := .int) (C := RX7) (T := TX7) (N := 11) hx hb hts in_X7_bad_X7 tyX7 tyX7_ok nmX7 hown hK hP hD hS 0 rfl rfl 8 (by decide) (hts (.fieldLink RX7 284 "BackLoans" "refusedBad" "I") (by decide +kernel)) (fun _ h9 => h9) rfl (by decide +kernel) rfl rfl (Nat.le_of_ble_eq_true rfl) dX7_bad_7 (fun H locs hP hD hS => ?_)
  obtain ⟨B_7, hP, hD, hf⟩ := st_nm (ws := fun B_7 : Nat → Int32 => (wB g B_7)) (upd B 0 (((B 0) + (1 : Int32)))) hP hD hf
  refine lv_bipush (v := -2) hx hb dX7_bad_10 (by decide) ?_
  exact hR _ _ _ _ _ _ dX7_bad_12 hf hP hD hS

theorem in_X7_chest_X5 : ∀ w ∈ wsX50, w ∈ wsX7_chest := by decide +kernel
theorem in_X7_chest_X7 : ∀ w ∈ wsX70, w ∈ wsX7_chest := by decide +kernel
def f_X7_chest (x1 : Int32) (B : Nat → Int32) (N : Tw) : Option (Int32 × (Nat → Int32) × Tw) :=
  bn (f_X7_within x1 (0 : Int32) (99999 : Int32)) fun r4 =>
  if r4 = 0 then (
    bn (f_X7_bad B) fun r11 =>
    some (r11.1, (r11.2, N))
  ) else (
    lett ((upd N.1 0 (x1), N.2)) fun N_28 =>
    some ((N.1 0), (B, N_28))
  )
set_option maxHeartbeats 4000000 in
set_option maxRecDepth 100000 in
theorem c_X7_chest (l : Launch) (dC : Nat → ClassId) (dI : Nat → Nat → Nat) (cs : Nat → ClassId) (g : Nat → Nat) (sz : Nat) (B : Nat → Int32) (N : Tw) (x1 : Int32) (res : Int32 × (Nat → Int32) × Tw) (hf : f_X7_chest x1 B N = some res) : Met l yX7_chest wsX7_chest ({ frames := 1, cells := 0, slots := 0, locals := 22 }) (va_Pc [.ref (g 0), .int (x1)] (fun U => U.heap.size = sz ∧ va_P (dC, dI) vwCl (wB g B ++ wT cs (fun i => g (1 + i)) N) U.heap ∧ GE dC dI cs U ∧ va_D (fun _ => True) (wB g B ++ wT cs (fun i => g (1 + i)) N))) (va_Qi (fun r (u : (Nat → Int32) × Tw) => r = res.1 ∧ u = res.2) (fun u t => va_P (dC, dI) vwCl ((fun u : (Nat → Int32) × Tw => (wB g u.1 ++ wT cs (fun i => g (1 + i)) u.2)) u) t.heap ∧ va_D (va_A (wB g B ++ wT cs (fun i => g (1 + i)) N) sz) ((fun u : (Nat → Int32) × Tw => (wB g u.1 ++ wT cs (fun i => g (1 + i)) u.2)) u)) (va_A (wB g B ++ wT cs (fun i => g (1 + i)) N) sz)) 0 0 (va_A (wB g B ++ wT cs (fun i => g (1 + i)) N) sz) := by
  refine Met.ofW (cc := cX7_chest) (maxL := 3) (ret := (some .int)) (by decide) rfl ?_
  intro p e s m args below meth c s₁ Bd hml hv
  obtain ⟨rfl, hsz, hP, G, hD0⟩ := hv
  have hts := atoms_spec (ws := wsX7_chest) Bd.pre
  have hown : s.vm.findClass RX7 = some m.cls := findClass_of_methodNamed Bd.named
  have hlocks := Bd.notSynchronized
  have hx := Bd.exec
  have hb := Bd.bytes
  have hr := Bd.returns
  have C : CallFix p m c cX7_chest 3 s _ wsX7_chest RX7 := ⟨hx, hb, hml, hown, hts⟩
  obtain ⟨hK, hN⟩ := id G
  subst hsz
  have hD := hD0.self (sz := s.heap.size)
  generalize hAe : va_A (wB g B ++ wT cs (fun i => g (1 + i)) N) s.heap.size = A at hD ⊢
  have hA : ∀ q : Nat, s.heap.size ≤ q → A q := fun q h => by rw [← hAe]; exact Or.inr h
  have hS : va_S A s.heap s.heap [] := va_S.rf
  have hR : RTi p l e ({ frames := 1, cells := 0, slots := 0, locals := 22 }) s m ([.ref (g 0), .int (x1)] : List Value).toArray below meth c cX7_chest (MQ below (va_Qi (fun r (u : (Nat → Int32) × Tw) => r = res.1 ∧ u = res.2) (fun u t => va_P (dC, dI) vwCl ((fun u : (Nat → Int32) × Tw => (wB g u.1 ++ wT cs (fun i => g (1 + i)) u.2)) u) t.heap ∧ va_D A ((fun u : (Nat → Int32) × Tw => (wB g u.1 ++ wT cs (fun i => g (1 + i)) u.2)) u)) A) ([.ref (g 0), .int (x1)] : List Value).toArray s 0 0 A) (dC, dI) A (fun u : (Nat → Int32) × Tw => (wB g u.1 ++ wT cs (fun i => g (1 + i)) u.2)) res := fun H locs pc ls r u dd h hP hD hS => W.iret hx hb hr (fun t ht hW => ⟨⟨r, u, rfl, by cases h; exact ⟨rfl, rfl⟩, by rw [ht]; exact hP, hD⟩, hS.F ht⟩) hS.2.2 dd
  have hl := lv_entry ([.ref (g 0), .int (x1)]) (n := 3) (Nat.le_of_ble_eq_true rfl)
  rw [lg_entry_eq]
  generalize (lg_sl ([.ref (g 0), .int (x1)]) ++ List.replicate (3 - (lg_sl ([.ref (g 0), .int (x1)])).length) Slot.unset).toArray = ls at hl ⊢
  have hl : lv_has ls 3 [(0, .ref (g 0)), (1, .int (x1))] := hl
  unfold f_X7_chest at hf
  refine lv_iload_n hx hb dX7_chest_0 rfl (lv_at hl 1 rfl) ?_
  refine lv_iconst (v := 0) hx hb dX7_chest_1 (by decide) ?_
  refine lv_ldc (v := 99999) hx hb hown (hts (.constant RX7 61 (99999)) (by decide +kernel)) dX7_chest_2 ?_
  obtain ⟨r4, hr4, hf⟩ := bn_e hf
  have hPc := hP.sub (ws' := ([] : va_W)) [] rfl
  refine vp_callSi (W.runS (As := [.int (x1), .int ((0 : Int32)), .int ((99999 : Int32))]) (rest := []) C (c_X7_within l dC dI cs x1 (0 : Int32) (99999 : Int32) r4 hr4) (va_cwS 3 hts gX7_chest_X7_within rfl rfl rfl (by decide +kernel) ⟨Nat.le_of_ble_eq_true rfl, Nat.le_of_ble_eq_true rfl⟩) ⟨(fun a U g mk q => ⟨q.1, q.2.1, GE.calling q.2.2⟩), (fun U hU hW => ⟨rfl, by rw [hU]; exact hPc, GE.warm hW G⟩)⟩ rfl rfl hl.1 rfl (lv_room (Nat.le_of_ble_eq_true rfl)) dX7_chest_4 ⟨Nat.le_of_ble_eq_true rfl, Nat.le_of_ble_eq_true rfl⟩) (fun qr4 hqr4 => ?_)
  obtain ⟨hqr4, hnr4⟩ := hqr4
  obtain rfl := hqr4.symm
  refine lv_if_ne (tgt := 15) hx hb dX7_chest_7 (by decide) (fun c1 => ?_) (fun c1 => ?_)
  · replace hf := it_f c1 hf
    refine lv_aload_n hx hb dX7_chest_15 rfl (lv_at hl 0 rfl) ?_
    refine va_get (D := (dC, dI)) (ci := 7) (v := .ref (g 1)) (C := RX7) (T := TX7) (N := 11) hx hb hts in_X7_chest_X7 hown hK hP 0 rfl rfl 0 (by decide) (hts (.fieldLink RX7 10 "BackLoans" "now" "LBackLoans$Town;") (by decide +kernel)) (fun _ h9 => h9) rfl dX7_chest_16 ?_
    refine va_get (D := (dC, dI)) (ci := 5) (v := .int ((N.1 0))) (C := RX5) (T := TX5) (N := 17) hx hb hts in_X7_chest_X5 hown hK hP 1 rfl rfl 0 (by decide) (hts (.fieldLink RX7 70 "BackLoans$Town" "chest" "I") (by decide +kernel)) (fun _ h9 => h9) rfl dX7_chest_19 ?_
    refine lv_istore_n (lv' := [(2, .int ((N.1 0))), (0, .ref (g 0)), (1, .int (x1))]) hx hb dX7_chest_22 rfl hl (by decide) rfl (fun ls hl => ?_)
    refine lv_aload_n hx hb dX7_chest_23 rfl (lv_at hl 1 rfl) ?_
    refine va_get (D := (dC, dI)) (ci := 7) (v := .ref (g 1)) (C := RX7) (T := TX7) (N := 11) hx hb hts in_X7_chest_X7 hown hK hP 0 rfl rfl 0 (by decide) (hts (.fieldLink RX7 10 "BackLoans" "now" "LBackLoans$Town;") (by decide +kernel)) (fun _ h9 => h9) rfl dX7_chest_24 ?_
    refine lv_iload_n hx hb dX7_chest_27 rfl (lv_at hl 2 rfl) ?_
    refine va_put (D := (dC, dI)) (ci := 5) (v := .int (x1)) (ty := .int) (C := RX5) (T := TX5) (N := 17) hx hb hts in_X7_chest_X5 tyX5 tyX5_ok nmX5 hown hK hP hD hS 1 rfl rfl 0 (by decide) (hts (.fieldLink RX7 70 "BackLoans$Town" "chest" "I") (by decide +kernel)) (fun _ h9 => h9) rfl (by decide +kernel) rfl rfl (Nat.le_of_ble_eq_true rfl) dX7_chest_28 (fun H locs hP hD hS => ?_)
    obtain ⟨N_28, hP, hD, hf⟩ := st_nm (ws := fun N_28 : Tw => (wB g B ++ wT cs (fun i => g (1 + i)) N_28)) ((upd N.1 0 (x1), N.2)) hP hD hf
    refine lv_iload_n hx hb dX7_chest_31 rfl (lv_at hl 0 rfl) ?_
    exact hR _ _ _ _ _ _ dX7_chest_32 hf hP hD hS
  · replace hf := it_t c1 hf
    refine lv_aload_n hx hb dX7_chest_10 rfl (lv_at hl 0 rfl) ?_
    obtain ⟨r11, hr11, hf⟩ := bn_e hf
    have hPc := hP.sub (ws' := (wB g B)) [0] rfl
    have hDc := hD.sub (ws' := (wB g B)) [0] (by decide) rfl
    have hFc := va_free (wc := (wB g B)) hD hS hA [0] rfl
    refine va_calli (va_runV (As := []) (rest := []) C (c_X7_bad l dC dI cs g s.heap.size B r11 hr11) (cwV 0 hts gX7_chest_X7_bad rfl rfl rfl (by decide +kernel) ⟨Nat.le_of_ble_eq_true rfl, Nat.le_of_ble_eq_true rfl⟩) ⟨(fun a U g mk q => ⟨q.1, q.2.1, q.2.2.1, GE.calling q.2.2.2.1, q.2.2.2.2⟩), va_recv hK hPc (ci := 7) (q0 := 0) rfl rfl, (fun U hU hW => ⟨rfl, by rw [hU], by rw [hU]; exact hPc, GE.warm hW G, hDc.weaken (fun _ _ _ _ => trivial)⟩)⟩ rfl rfl hl.1 rfl (lv_room (Nat.le_of_ble_eq_true rfl)) dX7_chest_11 ⟨Nat.le_of_ble_eq_true rfl, Nat.le_of_ble_eq_true rfl⟩) hS (fun q _ h => hFc q h) hFc (fun q u t H1 locs ht hvm hw hB hz1 hk1 hS => ?_)
    obtain ⟨rfl, rfl⟩ := hw
    obtain ⟨hP1, hD1⟩ := hB
    rw [ht] at hP1
    obtain ⟨hP, hD⟩ := va_join (wr := [1, 2, 3, 4, 5, 6, 7, 8, 9, 10, 11].filterMap (fun i => ((wB g B ++ wT cs (fun i => g (1 + i)) N))[i]?)) (w1 := (wB g r11.2)) hP hD [0] [1, 2, 3, 4, 5, 6, 7, 8, 9, 10, 11] rfl rfl (by decide) (by decide) hk1 hFc hP1 hD1
    generalize H1 = H at hP hS ⊢
    have hP := hP.sub (ws' := (wB g r11.2 ++ wT cs (fun i => g (1 + i)) N)) [11, 0, 1, 2, 3, 4, 5, 6, 7, 8, 9, 10] rfl
    have hD := hD.sub (ws' := (wB g r11.2 ++ wT cs (fun i => g (1 + i)) N)) [11, 0, 1, 2, 3, 4, 5, 6, 7, 8, 9, 10] (by decide) rfl
    exact hR _ _ _ _ _ _ dX7_chest_14 hf hP hD hS

theorem in_X7_rate_X5 : ∀ w ∈ wsX50, w ∈ wsX7_rate := by decide +kernel
theorem in_X7_rate_X7 : ∀ w ∈ wsX70, w ∈ wsX7_rate := by decide +kernel
def f_X7_rate (x1 : Int32) (B : Nat → Int32) (N : Tw) : Option (Int32 × (Nat → Int32) × Tw) :=
  bn (f_X7_within x1 (0 : Int32) (50 : Int32)) fun r4 =>
  if r4 = 0 then (
    bn (f_X7_bad B) fun r11 =>
    some (r11.1, (r11.2, N))
  ) else (
    lett ((upd N.1 1 (x1), N.2)) fun N_28 =>
    some ((N.1 1), (B, N_28))
  )
set_option maxHeartbeats 4000000 in
set_option maxRecDepth 100000 in
theorem c_X7_rate (l : Launch) (dC : Nat → ClassId) (dI : Nat → Nat → Nat) (cs : Nat → ClassId) (g : Nat → Nat) (sz : Nat) (B : Nat → Int32) (N : Tw) (x1 : Int32) (res : Int32 × (Nat → Int32) × Tw) (hf : f_X7_rate x1 B N = some res) : Met l yX7_rate wsX7_rate ({ frames := 1, cells := 0, slots := 0, locals := 22 }) (va_Pc [.ref (g 0), .int (x1)] (fun U => U.heap.size = sz ∧ va_P (dC, dI) vwCl (wB g B ++ wT cs (fun i => g (1 + i)) N) U.heap ∧ GE dC dI cs U ∧ va_D (fun _ => True) (wB g B ++ wT cs (fun i => g (1 + i)) N))) (va_Qi (fun r (u : (Nat → Int32) × Tw) => r = res.1 ∧ u = res.2) (fun u t => va_P (dC, dI) vwCl ((fun u : (Nat → Int32) × Tw => (wB g u.1 ++ wT cs (fun i => g (1 + i)) u.2)) u) t.heap ∧ va_D (va_A (wB g B ++ wT cs (fun i => g (1 + i)) N) sz) ((fun u : (Nat → Int32) × Tw => (wB g u.1 ++ wT cs (fun i => g (1 + i)) u.2)) u)) (va_A (wB g B ++ wT cs (fun i => g (1 + i)) N) sz)) 0 0 (va_A (wB g B ++ wT cs (fun i => g (1 + i)) N) sz) := by
  refine Met.ofW (cc := cX7_rate) (maxL := 3) (ret := (some .int)) (by decide) rfl ?_
  intro p e s m args below meth c s₁ Bd hml hv
  obtain ⟨rfl, hsz, hP, G, hD0⟩ := hv
  have hts := atoms_spec (ws := wsX7_rate) Bd.pre
  have hown : s.vm.findClass RX7 = some m.cls := findClass_of_methodNamed Bd.named
  have hlocks := Bd.notSynchronized
  have hx := Bd.exec
  have hb := Bd.bytes
  have hr := Bd.returns
  have C : CallFix p m c cX7_rate 3 s _ wsX7_rate RX7 := ⟨hx, hb, hml, hown, hts⟩
  obtain ⟨hK, hN⟩ := id G
  subst hsz
  have hD := hD0.self (sz := s.heap.size)
  generalize hAe : va_A (wB g B ++ wT cs (fun i => g (1 + i)) N) s.heap.size = A at hD ⊢
  have hA : ∀ q : Nat, s.heap.size ≤ q → A q := fun q h => by rw [← hAe]; exact Or.inr h
  have hS : va_S A s.heap s.heap [] := va_S.rf
  have hR : RTi p l e ({ frames := 1, cells := 0, slots := 0, locals := 22 }) s m ([.ref (g 0), .int (x1)] : List Value).toArray below meth c cX7_rate (MQ below (va_Qi (fun r (u : (Nat → Int32) × Tw) => r = res.1 ∧ u = res.2) (fun u t => va_P (dC, dI) vwCl ((fun u : (Nat → Int32) × Tw => (wB g u.1 ++ wT cs (fun i => g (1 + i)) u.2)) u) t.heap ∧ va_D A ((fun u : (Nat → Int32) × Tw => (wB g u.1 ++ wT cs (fun i => g (1 + i)) u.2)) u)) A) ([.ref (g 0), .int (x1)] : List Value).toArray s 0 0 A) (dC, dI) A (fun u : (Nat → Int32) × Tw => (wB g u.1 ++ wT cs (fun i => g (1 + i)) u.2)) res := fun H locs pc ls r u dd h hP hD hS => W.iret hx hb hr (fun t ht hW => ⟨⟨r, u, rfl, by cases h; exact ⟨rfl, rfl⟩, by rw [ht]; exact hP, hD⟩, hS.F ht⟩) hS.2.2 dd
  have hl := lv_entry ([.ref (g 0), .int (x1)]) (n := 3) (Nat.le_of_ble_eq_true rfl)
  rw [lg_entry_eq]
  generalize (lg_sl ([.ref (g 0), .int (x1)]) ++ List.replicate (3 - (lg_sl ([.ref (g 0), .int (x1)])).length) Slot.unset).toArray = ls at hl ⊢
  have hl : lv_has ls 3 [(0, .ref (g 0)), (1, .int (x1))] := hl
  unfold f_X7_rate at hf
  refine lv_iload_n hx hb dX7_rate_0 rfl (lv_at hl 1 rfl) ?_
  refine lv_iconst (v := 0) hx hb dX7_rate_1 (by decide) ?_
  refine lv_bipush (v := 50) hx hb dX7_rate_2 (by decide) ?_
  obtain ⟨r4, hr4, hf⟩ := bn_e hf
  have hPc := hP.sub (ws' := ([] : va_W)) [] rfl
  refine vp_callSi (W.runS (As := [.int (x1), .int ((0 : Int32)), .int ((50 : Int32))]) (rest := []) C (c_X7_within l dC dI cs x1 (0 : Int32) (50 : Int32) r4 hr4) (va_cwS 3 hts gX7_rate_X7_within rfl rfl rfl (by decide +kernel) ⟨Nat.le_of_ble_eq_true rfl, Nat.le_of_ble_eq_true rfl⟩) ⟨(fun a U g mk q => ⟨q.1, q.2.1, GE.calling q.2.2⟩), (fun U hU hW => ⟨rfl, by rw [hU]; exact hPc, GE.warm hW G⟩)⟩ rfl rfl hl.1 rfl (lv_room (Nat.le_of_ble_eq_true rfl)) dX7_rate_4 ⟨Nat.le_of_ble_eq_true rfl, Nat.le_of_ble_eq_true rfl⟩) (fun qr4 hqr4 => ?_)
  obtain ⟨hqr4, hnr4⟩ := hqr4
  obtain rfl := hqr4.symm
  refine lv_if_ne (tgt := 15) hx hb dX7_rate_7 (by decide) (fun c1 => ?_) (fun c1 => ?_)
  · replace hf := it_f c1 hf
    refine lv_aload_n hx hb dX7_rate_15 rfl (lv_at hl 0 rfl) ?_
    refine va_get (D := (dC, dI)) (ci := 7) (v := .ref (g 1)) (C := RX7) (T := TX7) (N := 11) hx hb hts in_X7_rate_X7 hown hK hP 0 rfl rfl 0 (by decide) (hts (.fieldLink RX7 10 "BackLoans" "now" "LBackLoans$Town;") (by decide +kernel)) (fun _ h9 => h9) rfl dX7_rate_16 ?_
    refine va_get (D := (dC, dI)) (ci := 5) (v := .int ((N.1 1))) (C := RX5) (T := TX5) (N := 17) hx hb hts in_X7_rate_X5 hown hK hP 1 rfl rfl 1 (by decide) (hts (.fieldLink RX7 74 "BackLoans$Town" "rate" "I") (by decide +kernel)) (fun _ h9 => h9) rfl dX7_rate_19 ?_
    refine lv_istore_n (lv' := [(2, .int ((N.1 1))), (0, .ref (g 0)), (1, .int (x1))]) hx hb dX7_rate_22 rfl hl (by decide) rfl (fun ls hl => ?_)
    refine lv_aload_n hx hb dX7_rate_23 rfl (lv_at hl 1 rfl) ?_
    refine va_get (D := (dC, dI)) (ci := 7) (v := .ref (g 1)) (C := RX7) (T := TX7) (N := 11) hx hb hts in_X7_rate_X7 hown hK hP 0 rfl rfl 0 (by decide) (hts (.fieldLink RX7 10 "BackLoans" "now" "LBackLoans$Town;") (by decide +kernel)) (fun _ h9 => h9) rfl dX7_rate_24 ?_
    refine lv_iload_n hx hb dX7_rate_27 rfl (lv_at hl 2 rfl) ?_
    refine va_put (D := (dC, dI)) (ci := 5) (v := .int (x1)) (ty := .int) (C := RX5) (T := TX5) (N := 17) hx hb hts in_X7_rate_X5 tyX5 tyX5_ok nmX5 hown hK hP hD hS 1 rfl rfl 1 (by decide) (hts (.fieldLink RX7 74 "BackLoans$Town" "rate" "I") (by decide +kernel)) (fun _ h9 => h9) rfl (by decide +kernel) rfl rfl (Nat.le_of_ble_eq_true rfl) dX7_rate_28 (fun H locs hP hD hS => ?_)
    obtain ⟨N_28, hP, hD, hf⟩ := st_nm (ws := fun N_28 : Tw => (wB g B ++ wT cs (fun i => g (1 + i)) N_28)) ((upd N.1 1 (x1), N.2)) hP hD hf
    refine lv_iload_n hx hb dX7_rate_31 rfl (lv_at hl 0 rfl) ?_
    exact hR _ _ _ _ _ _ dX7_rate_32 hf hP hD hS
  · replace hf := it_t c1 hf
    refine lv_aload_n hx hb dX7_rate_10 rfl (lv_at hl 0 rfl) ?_
    obtain ⟨r11, hr11, hf⟩ := bn_e hf
    have hPc := hP.sub (ws' := (wB g B)) [0] rfl
    have hDc := hD.sub (ws' := (wB g B)) [0] (by decide) rfl
    have hFc := va_free (wc := (wB g B)) hD hS hA [0] rfl
    refine va_calli (va_runV (As := []) (rest := []) C (c_X7_bad l dC dI cs g s.heap.size B r11 hr11) (cwV 0 hts gX7_rate_X7_bad rfl rfl rfl (by decide +kernel) ⟨Nat.le_of_ble_eq_true rfl, Nat.le_of_ble_eq_true rfl⟩) ⟨(fun a U g mk q => ⟨q.1, q.2.1, q.2.2.1, GE.calling q.2.2.2.1, q.2.2.2.2⟩), va_recv hK hPc (ci := 7) (q0 := 0) rfl rfl, (fun U hU hW => ⟨rfl, by rw [hU], by rw [hU]; exact hPc, GE.warm hW G, hDc.weaken (fun _ _ _ _ => trivial)⟩)⟩ rfl rfl hl.1 rfl (lv_room (Nat.le_of_ble_eq_true rfl)) dX7_rate_11 ⟨Nat.le_of_ble_eq_true rfl, Nat.le_of_ble_eq_true rfl⟩) hS (fun q _ h => hFc q h) hFc (fun q u t H1 locs ht hvm hw hB hz1 hk1 hS => ?_)
    obtain ⟨rfl, rfl⟩ := hw
    obtain ⟨hP1, hD1⟩ := hB
    rw [ht] at hP1
    obtain ⟨hP, hD⟩ := va_join (wr := [1, 2, 3, 4, 5, 6, 7, 8, 9, 10, 11].filterMap (fun i => ((wB g B ++ wT cs (fun i => g (1 + i)) N))[i]?)) (w1 := (wB g r11.2)) hP hD [0] [1, 2, 3, 4, 5, 6, 7, 8, 9, 10, 11] rfl rfl (by decide) (by decide) hk1 hFc hP1 hD1
    generalize H1 = H at hP hS ⊢
    have hP := hP.sub (ws' := (wB g r11.2 ++ wT cs (fun i => g (1 + i)) N)) [11, 0, 1, 2, 3, 4, 5, 6, 7, 8, 9, 10] rfl
    have hD := hD.sub (ws' := (wB g r11.2 ++ wT cs (fun i => g (1 + i)) N)) [11, 0, 1, 2, 3, 4, 5, 6, 7, 8, 9, 10] (by decide) rfl
    exact hR _ _ _ _ _ _ dX7_rate_14 hf hP hD hS

theorem in_X7_full_X7 : ∀ w ∈ wsX70, w ∈ wsX7_full := by decide +kernel
def f_X7_full  (B : Nat → Int32) : Option (Int32 × (Nat → Int32)) :=
  lett (upd B 2 (((B 2) + (1 : Int32)))) fun B_7 =>
  some ((-4 : Int32), B_7)
set_option maxHeartbeats 4000000 in
set_option maxRecDepth 100000 in
theorem c_X7_full (l : Launch) (dC : Nat → ClassId) (dI : Nat → Nat → Nat) (cs : Nat → ClassId) (g : Nat → Nat) (sz : Nat) (B : Nat → Int32)  (res : Int32 × (Nat → Int32)) (hf : f_X7_full B = some res) : Met l yX7_full wsX7_full ({ frames := 0, cells := 0, slots := 0, locals := 0 }) (va_Pc [.ref (g 0)] (fun U => U.heap.size = sz ∧ va_P (dC, dI) vwCl (wB g B) U.heap ∧ GE dC dI cs U ∧ va_D (fun _ => True) (wB g B))) (va_Qi (fun r (u : (Nat → Int32)) => r = res.1 ∧ u = res.2) (fun u t => va_P (dC, dI) vwCl ((fun u : (Nat → Int32) => (wB g u)) u) t.heap ∧ va_D (va_A (wB g B) sz) ((fun u : (Nat → Int32) => (wB g u)) u)) (va_A (wB g B) sz)) 0 0 (va_A (wB g B) sz) := by
  refine Met.ofW (cc := cX7_full) (maxL := 1) (ret := (some .int)) (by decide) rfl ?_
  intro p e s m args below meth c s₁ Bd hml hv
  obtain ⟨rfl, hsz, hP, G, hD0⟩ := hv
  have hts := atoms_spec (ws := wsX7_full) Bd.pre
  have hown : s.vm.findClass RX7 = some m.cls := findClass_of_methodNamed Bd.named
  have hlocks := Bd.notSynchronized
  have hx := Bd.exec
  have hb := Bd.bytes
  have hr := Bd.returns
  have C : CallFix p m c cX7_full 1 s _ wsX7_full RX7 := ⟨hx, hb, hml, hown, hts⟩
  obtain ⟨hK, hN⟩ := id G
  subst hsz
  have hD := hD0.self (sz := s.heap.size)
  generalize hAe : va_A (wB g B) s.heap.size = A at hD ⊢
  have hA : ∀ q : Nat, s.heap.size ≤ q → A q := fun q h => by rw [← hAe]; exact Or.inr h
  have hS : va_S A s.heap s.heap [] := va_S.rf
  have hR : RTi p l e ({ frames := 0, cells := 0, slots := 0, locals := 0 }) s m ([.ref (g 0)] : List Value).toArray below meth c cX7_full (MQ below (va_Qi (fun r (u : (Nat → Int32)) => r = res.1 ∧ u = res.2) (fun u t => va_P (dC, dI) vwCl ((fun u : (Nat → Int32) => (wB g u)) u) t.heap ∧ va_D A ((fun u : (Nat → Int32) => (wB g u)) u)) A) ([.ref (g 0)] : List Value).toArray s 0 0 A) (dC, dI) A (fun u : (Nat → Int32) => (wB g u)) res := fun H locs pc ls r u dd h hP hD hS => W.iret hx hb hr (fun t ht hW => ⟨⟨r, u, rfl, by cases h; exact ⟨rfl, rfl⟩, by rw [ht]; exact hP, hD⟩, hS.F ht⟩) hS.2.2 dd
  have hl := lv_entry ([.ref (g 0)]) (n := 1) (Nat.le_of_ble_eq_true rfl)
  rw [lg_entry_eq]
  generalize (lg_sl ([.ref (g 0)]) ++ List.replicate (1 - (lg_sl ([.ref (g 0)])).length) Slot.unset).toArray = ls at hl ⊢
  have hl : lv_has ls 1 [(0, .ref (g 0))] := hl
  unfold f_X7_full at hf
  refine lv_aload_n hx hb dX7_full_0 rfl (lv_at hl 0 rfl) ?_
  refine lv_dup hx hb dX7_full_1 rfl ?_
  refine va_get (D := (dC, dI)) (ci := 7) (v := .int ((B 2))) (C := RX7) (T := TX7) (N := 11) hx hb hts in_X7_full_X7 hown hK hP 0 rfl rfl 10 (by decide) (hts (.fieldLink RX7 290 "BackLoans" "refusedFull" "I") (by decide +kernel)) (fun _ h9 => h9) rfl dX7_full_2 ?_
  refine lv_iconst (v := 1) hx hb dX7_full_5 (by decide) ?_
  refine lv_iadd hx hb dX7_full_6 ?_
  refine va_put (D := (dC, dI)) (ci := 7) (v := .int (((B 2) + (1 : Int32)))) (ty := .int) (C := RX7) (T := TX7) (N := 11) hx hb hts in_X7_full_X7 tyX7 tyX7_ok nmX7 hown hK hP hD hS 0 rfl rfl 10 (by decide) (hts (.fieldLink RX7 290 "BackLoans" "refusedFull" "I") (by decide +kernel)) (fun _ h9 => h9) rfl (by decide +kernel) rfl rfl (Nat.le_of_ble_eq_true rfl) dX7_full_7 (fun H locs hP hD hS => ?_)
  obtain ⟨B_7, hP, hD, hf⟩ := st_nm (ws := fun B_7 : Nat → Int32 => (wB g B_7)) (upd B 2 (((B 2) + (1 : Int32)))) hP hD hf
  refine lv_bipush (v := -4) hx hb dX7_full_10 (by decide) ?_
  exact hR _ _ _ _ _ _ dX7_full_12 hf hP hD hS

theorem in_X7_person_X5 : ∀ w ∈ wsX50, w ∈ wsX7_person := by decide +kernel
theorem in_X7_person_X7 : ∀ w ∈ wsX70, w ∈ wsX7_person := by decide +kernel
def f_X7_person_30 (B : Nat → Int32) (N : Tw)  : Option (Int32 × (Nat → Int32) × Tw) :=
  bn (f_X7_bad B) fun r31 =>
  some (r31.1, (r31.2, N))
set_option maxHeartbeats 4000000 in
set_option maxRecDepth 100000 in
theorem b_X7_person_30 {p : Program} {l : Launch} {e : Env} {s : State} {m : MethodId} {args : Array Value} {below : List Frame} {meth : Method} {c : Code} {Q : State → Prop} {dC : Nat → ClassId} {dI : Nat → Nat → Nat} {cs : Nat → ClassId} {A : Nat → Prop} {g : Nat → Nat} {res : Int32 × (Nat → Int32) × Tw} (C : CallFix p m c cX7_person 4 s args wsX7_person RX7) (G : GE dC dI cs s) (hA : ∀ q : Nat, s.heap.size ≤ q → A q) (hR : RTi p l e ({ frames := 1, cells := 0, slots := 0, locals := 23 }) s m args below meth c cX7_person Q (dC, dI) A (fun u : (Nat → Int32) × Tw => (wB g u.1 ++ wT cs (fun i => g (1 + i)) u.2)) res) (B : Nat → Int32) (N : Tw)   (H : Heap) (locs : List Loc) (ls : Array Slot) (hl : lv_has ls 4 [(0, .ref (g 0))]) (hP : va_P (dC, dI) vwCl (wB g B ++ wT cs (fun i => g (1 + i)) N) H) (hD : va_D A (wB g B ++ wT cs (fun i => g (1 + i)) N)) (hS : va_S A s.heap H locs) (hf : f_X7_person_30 B N = some res) : W p l e ({ frames := 1, cells := 0, slots := 0, locals := 23 }) s m args below meth c H locs 0 0 Q (F0 m 30 ls []) := by
  obtain ⟨hx, hb, hml, hown, hts⟩ := id C
  obtain ⟨hK, hN⟩ := id G
  unfold f_X7_person_30 at hf
  refine lv_aload_n hx hb dX7_person_30 rfl (lv_at hl 0 rfl) ?_
  obtain ⟨r31, hr31, hf⟩ := bn_e hf
  have hPc := hP.sub (ws' := (wB g B)) [0] rfl
  have hDc := hD.sub (ws' := (wB g B)) [0] (by decide) rfl
  have hFc := va_free (wc := (wB g B)) hD hS hA [0] rfl
  refine va_calli (va_runV (As := []) (rest := []) C (c_X7_bad l dC dI cs g H.size B r31 hr31) (cwV 0 hts gX7_person_X7_bad rfl rfl rfl (by decide +kernel) ⟨Nat.le_of_ble_eq_true rfl, Nat.le_of_ble_eq_true rfl⟩) ⟨(fun a U g mk q => ⟨q.1, q.2.1, q.2.2.1, GE.calling q.2.2.2.1, q.2.2.2.2⟩), va_recv hK hPc (ci := 7) (q0 := 0) rfl rfl, (fun U hU hW => ⟨rfl, by rw [hU], by rw [hU]; exact hPc, GE.warm hW G, hDc.weaken (fun _ _ _ _ => trivial)⟩)⟩ rfl rfl hl.1 rfl (lv_room (Nat.le_of_ble_eq_true rfl)) dX7_person_31 ⟨Nat.le_of_ble_eq_true rfl, Nat.le_of_ble_eq_true rfl⟩) hS (fun q _ h => hFc q h) hFc (fun q u t H1 locs ht hvm hw hB hz1 hk1 hS => ?_)
  obtain ⟨rfl, rfl⟩ := hw
  obtain ⟨hP1, hD1⟩ := hB
  rw [ht] at hP1
  obtain ⟨hP, hD⟩ := va_join (wr := [1, 2, 3, 4, 5, 6, 7, 8, 9, 10, 11].filterMap (fun i => ((wB g B ++ wT cs (fun i => g (1 + i)) N))[i]?)) (w1 := (wB g r31.2)) hP hD [0] [1, 2, 3, 4, 5, 6, 7, 8, 9, 10, 11] rfl rfl (by decide) (by decide) hk1 hFc hP1 hD1
  generalize H1 = H at hP hS ⊢
  have hP := hP.sub (ws' := (wB g r31.2 ++ wT cs (fun i => g (1 + i)) N)) [11, 0, 1, 2, 3, 4, 5, 6, 7, 8, 9, 10] rfl
  have hD := hD.sub (ws' := (wB g r31.2 ++ wT cs (fun i => g (1 + i)) N)) [11, 0, 1, 2, 3, 4, 5, 6, 7, 8, 9, 10] (by decide) rfl
  exact hR _ _ _ _ _ _ dX7_person_34 hf hP hD hS
def f_X7_person (x1 : Int32) (x2 : Int32) (x3 : Int32) (B : Nat → Int32) (N : Tw) : Option (Int32 × (Nat → Int32) × Tw) :=
  bn (f_X7_within x1 (0 : Int32) (5 : Int32)) fun r3 =>
  if r3 = 0 then (
    f_X7_person_30 B N
  ) else (
    bn (f_X7_within x2 (0 : Int32) (99 : Int32)) fun r13 =>
    if r13 = 0 then (
      f_X7_person_30 B N
    ) else (
      bn (f_X7_within x3 (0 : Int32) (9999 : Int32)) fun r24 =>
      if r24 = 0 then (
        f_X7_person_30 B N
      ) else (
        if (N.1 4) < (6 : Int32) then (
          bn (f_X5_addPerson x1 x2 x3 N) fun r59 =>
          some (r59.1, (B, r59.2))
        ) else (
          bn (f_X7_full B) fun r48 =>
          some (r48.1, (r48.2, N))
        )
      )
    )
  )
set_option maxHeartbeats 4000000 in
set_option maxRecDepth 100000 in
theorem c_X7_person (l : Launch) (dC : Nat → ClassId) (dI : Nat → Nat → Nat) (cs : Nat → ClassId) (g : Nat → Nat) (sz : Nat) (B : Nat → Int32) (N : Tw) (x1 : Int32) (x2 : Int32) (x3 : Int32) (res : Int32 × (Nat → Int32) × Tw) (hf : f_X7_person x1 x2 x3 B N = some res) : Met l yX7_person wsX7_person ({ frames := 1, cells := 0, slots := 0, locals := 23 }) (va_Pc [.ref (g 0), .int (x1), .int (x2), .int (x3)] (fun U => U.heap.size = sz ∧ va_P (dC, dI) vwCl (wB g B ++ wT cs (fun i => g (1 + i)) N) U.heap ∧ GE dC dI cs U ∧ va_D (fun _ => True) (wB g B ++ wT cs (fun i => g (1 + i)) N))) (va_Qi (fun r (u : (Nat → Int32) × Tw) => r = res.1 ∧ u = res.2) (fun u t => va_P (dC, dI) vwCl ((fun u : (Nat → Int32) × Tw => (wB g u.1 ++ wT cs (fun i => g (1 + i)) u.2)) u) t.heap ∧ va_D (va_A (wB g B ++ wT cs (fun i => g (1 + i)) N) sz) ((fun u : (Nat → Int32) × Tw => (wB g u.1 ++ wT cs (fun i => g (1 + i)) u.2)) u)) (va_A (wB g B ++ wT cs (fun i => g (1 + i)) N) sz)) 0 0 (va_A (wB g B ++ wT cs (fun i => g (1 + i)) N) sz) := by
  refine Met.ofW (cc := cX7_person) (maxL := 4) (ret := (some .int)) (by decide) rfl ?_
  intro p e s m args below meth c s₁ Bd hml hv
  obtain ⟨rfl, hsz, hP, G, hD0⟩ := hv
  have hts := atoms_spec (ws := wsX7_person) Bd.pre
  have hown : s.vm.findClass RX7 = some m.cls := findClass_of_methodNamed Bd.named
  have hlocks := Bd.notSynchronized
  have hx := Bd.exec
  have hb := Bd.bytes
  have hr := Bd.returns
  have C : CallFix p m c cX7_person 4 s _ wsX7_person RX7 := ⟨hx, hb, hml, hown, hts⟩
  obtain ⟨hK, hN⟩ := id G
  subst hsz
  have hD := hD0.self (sz := s.heap.size)
  generalize hAe : va_A (wB g B ++ wT cs (fun i => g (1 + i)) N) s.heap.size = A at hD ⊢
  have hA : ∀ q : Nat, s.heap.size ≤ q → A q := fun q h => by rw [← hAe]; exact Or.inr h
  have hS : va_S A s.heap s.heap [] := va_S.rf
  have hR : RTi p l e ({ frames := 1, cells := 0, slots := 0, locals := 23 }) s m ([.ref (g 0), .int (x1), .int (x2), .int (x3)] : List Value).toArray below meth c cX7_person (MQ below (va_Qi (fun r (u : (Nat → Int32) × Tw) => r = res.1 ∧ u = res.2) (fun u t => va_P (dC, dI) vwCl ((fun u : (Nat → Int32) × Tw => (wB g u.1 ++ wT cs (fun i => g (1 + i)) u.2)) u) t.heap ∧ va_D A ((fun u : (Nat → Int32) × Tw => (wB g u.1 ++ wT cs (fun i => g (1 + i)) u.2)) u)) A) ([.ref (g 0), .int (x1), .int (x2), .int (x3)] : List Value).toArray s 0 0 A) (dC, dI) A (fun u : (Nat → Int32) × Tw => (wB g u.1 ++ wT cs (fun i => g (1 + i)) u.2)) res := fun H locs pc ls r u dd h hP hD hS => W.iret hx hb hr (fun t ht hW => ⟨⟨r, u, rfl, by cases h; exact ⟨rfl, rfl⟩, by rw [ht]; exact hP, hD⟩, hS.F ht⟩) hS.2.2 dd
  have hl := lv_entry ([.ref (g 0), .int (x1), .int (x2), .int (x3)]) (n := 4) (Nat.le_of_ble_eq_true rfl)
  rw [lg_entry_eq]
  generalize (lg_sl ([.ref (g 0), .int (x1), .int (x2), .int (x3)]) ++ List.replicate (4 - (lg_sl ([.ref (g 0), .int (x1), .int (x2), .int (x3)])).length) Slot.unset).toArray = ls at hl ⊢
  have hl : lv_has ls 4 [(0, .ref (g 0)), (1, .int (x1)), (2, .int (x2)), (3, .int (x3))] := hl
  unfold f_X7_person at hf
  refine lv_iload_n hx hb dX7_person_0 rfl (lv_at hl 1 rfl) ?_
  refine lv_iconst (v := 0) hx hb dX7_person_1 (by decide) ?_
  refine lv_iconst (v := 5) hx hb dX7_person_2 (by decide) ?_
  obtain ⟨r3, hr3, hf⟩ := bn_e hf
  have hPc := hP.sub (ws' := ([] : va_W)) [] rfl
  refine vp_callSi (W.runS (As := [.int (x1), .int ((0 : Int32)), .int ((5 : Int32))]) (rest := []) C (c_X7_within l dC dI cs x1 (0 : Int32) (5 : Int32) r3 hr3) (va_cwS 3 hts gX7_person_X7_within rfl rfl rfl (by decide +kernel) ⟨Nat.le_of_ble_eq_true rfl, Nat.le_of_ble_eq_true rfl⟩) ⟨(fun a U g mk q => ⟨q.1, q.2.1, GE.calling q.2.2⟩), (fun U hU hW => ⟨rfl, by rw [hU]; exact hPc, GE.warm hW G⟩)⟩ rfl rfl hl.1 rfl (lv_room (Nat.le_of_ble_eq_true rfl)) dX7_person_3 ⟨Nat.le_of_ble_eq_true rfl, Nat.le_of_ble_eq_true rfl⟩) (fun qr3 hqr3 => ?_)
  obtain ⟨hqr3, hnr3⟩ := hqr3
  obtain rfl := hqr3.symm
  refine lv_if_eq (tgt := 30) hx hb dX7_person_6 (by decide) (fun c1 => ?_) (fun c1 => ?_)
  · replace hf := it_t c1 hf
    exact b_X7_person_30 C G hA hR B N _ _ _ (lv_sub hl [0] rfl) hP hD hS hf
  · replace hf := it_f c1 hf
    refine lv_iload_n hx hb dX7_person_9 rfl (lv_at hl 2 rfl) ?_
    refine lv_iconst (v := 0) hx hb dX7_person_10 (by decide) ?_
    refine lv_bipush (v := 99) hx hb dX7_person_11 (by decide) ?_
    obtain ⟨r13, hr13, hf⟩ := bn_e hf
    have hPc := hP.sub (ws' := ([] : va_W)) [] rfl
    refine vp_callSi (W.runS (As := [.int (x2), .int ((0 : Int32)), .int ((99 : Int32))]) (rest := []) C (c_X7_within l dC dI cs x2 (0 : Int32) (99 : Int32) r13 hr13) (va_cwS 3 hts gX7_person_X7_within rfl rfl rfl (by decide +kernel) ⟨Nat.le_of_ble_eq_true rfl, Nat.le_of_ble_eq_true rfl⟩) ⟨(fun a U g mk q => ⟨q.1, q.2.1, GE.calling q.2.2⟩), (fun U hU hW => ⟨rfl, by rw [hU]; exact hPc, GE.warm hW G⟩)⟩ rfl rfl hl.1 rfl (lv_room (Nat.le_of_ble_eq_true rfl)) dX7_person_13 ⟨Nat.le_of_ble_eq_true rfl, Nat.le_of_ble_eq_true rfl⟩) (fun qr13 hqr13 => ?_)
    obtain ⟨hqr13, hnr13⟩ := hqr13
    obtain rfl := hqr13.symm
    refine lv_if_eq (tgt := 30) hx hb dX7_person_16 (by decide) (fun c2 => ?_) (fun c2 => ?_)
    · replace hf := it_t c2 hf
      exact b_X7_person_30 C G hA hR B N _ _ _ (lv_sub hl [0] rfl) hP hD hS hf
    · replace hf := it_f c2 hf
      refine lv_iload_n hx hb dX7_person_19 rfl (lv_at hl 3 rfl) ?_
      refine lv_iconst (v := 0) hx hb dX7_person_20 (by decide) ?_
      refine lv_sipush (v := 9999) hx hb dX7_person_21 (by decide) ?_
      obtain ⟨r24, hr24, hf⟩ := bn_e hf
      have hPc := hP.sub (ws' := ([] : va_W)) [] rfl
      refine vp_callSi (W.runS (As := [.int (x3), .int ((0 : Int32)), .int ((9999 : Int32))]) (rest := []) C (c_X7_within l dC dI cs x3 (0 : Int32) (9999 : Int32) r24 hr24) (va_cwS 3 hts gX7_person_X7_within rfl rfl rfl (by decide +kernel) ⟨Nat.le_of_ble_eq_true rfl, Nat.le_of_ble_eq_true rfl⟩) ⟨(fun a U g mk q => ⟨q.1, q.2.1, GE.calling q.2.2⟩), (fun U hU hW => ⟨rfl, by rw [hU]; exact hPc, GE.warm hW G⟩)⟩ rfl rfl hl.1 rfl (lv_room (Nat.le_of_ble_eq_true rfl)) dX7_person_24 ⟨Nat.le_of_ble_eq_true rfl, Nat.le_of_ble_eq_true rfl⟩) (fun qr24 hqr24 => ?_)
      obtain ⟨hqr24, hnr24⟩ := hqr24
      obtain rfl := hqr24.symm
      refine lv_if_ne (tgt := 35) hx hb dX7_person_27 (by decide) (fun c3 => ?_) (fun c3 => ?_)
      · replace hf := it_f c3 hf
        refine lv_aload_n hx hb dX7_person_35 rfl (lv_at hl 0 rfl) ?_
        refine va_get (D := (dC, dI)) (ci := 7) (v := .ref (g 1)) (C := RX7) (T := TX7) (N := 11) hx hb hts in_X7_person_X7 hown hK hP 0 rfl rfl 0 (by decide) (hts (.fieldLink RX7 10 "BackLoans" "now" "LBackLoans$Town;") (by decide +kernel)) (fun _ h9 => h9) rfl dX7_person_36 ?_
        refine va_get (D := (dC, dI)) (ci := 5) (v := .int ((N.1 4))) (C := RX5) (T := TX5) (N := 17) hx hb hts in_X7_person_X5 hown hK hP 1 rfl rfl 4 (by decide) (hts (.fieldLink RX7 77 "BackLoans$Town" "people" "I") (by decide +kernel)) (fun _ h9 => h9) rfl dX7_person_39 ?_
        refine lv_bipush (v := 6) hx hb dX7_person_42 (by decide) ?_
        refine lv_icmp_lt (tgt := 52) hx hb dX7_person_44 (by decide) (fun c4 => ?_) (fun c4 => ?_)
        · replace hf := it_t c4 hf
          refine lv_aload_n hx hb dX7_person_52 rfl (lv_at hl 0 rfl) ?_
          refine va_get (D := (dC, dI)) (ci := 7) (v := .ref (g 1)) (C := RX7) (T := TX7) (N := 11) hx hb hts in_X7_person_X7 hown hK hP 0 rfl rfl 0 (by decide) (hts (.fieldLink RX7 10 "BackLoans" "now" "LBackLoans$Town;") (by decide +kernel)) (fun _ h9 => h9) rfl dX7_person_53 ?_
          refine lv_iload_n hx hb dX7_person_56 rfl (lv_at hl 1 rfl) ?_
          refine lv_iload_n hx hb dX7_person_57 rfl (lv_at hl 2 rfl) ?_
          refine lv_iload_n hx hb dX7_person_58 rfl (lv_at hl 3 rfl) ?_
          obtain ⟨r59, hr59, hf⟩ := bn_e hf
          have hPc := hP.sub (ws' := (wT cs (fun i => g (1 + i)) N)) [1, 2, 3, 4, 5, 6, 7, 8, 9, 10, 11] rfl
          have hDc := hD.sub (ws' := (wT cs (fun i => g (1 + i)) N)) [1, 2, 3, 4, 5, 6, 7, 8, 9, 10, 11] (by decide) rfl
          have hFc := va_free (wc := (wT cs (fun i => g (1 + i)) N)) hD hS hA [1, 2, 3, 4, 5, 6, 7, 8, 9, 10, 11] rfl
          refine va_calli (va_runV (As := [.int (x1), .int (x2), .int (x3)]) (rest := []) C (c_X5_addPerson l dC dI cs (fun i => g (1 + i)) s.heap.size N x1 x2 x3 r59 hr59) (cwV 3 hts gX7_person_X5_addPerson rfl rfl rfl (by decide +kernel) ⟨Nat.le_of_ble_eq_true rfl, Nat.le_of_ble_eq_true rfl⟩) ⟨(fun a U g mk q => ⟨q.1, q.2.1, q.2.2.1, GE.calling q.2.2.2.1, q.2.2.2.2⟩), va_recv hK hPc (ci := 5) (q0 := 0) rfl rfl, (fun U hU hW => ⟨rfl, by rw [hU], by rw [hU]; exact hPc, GE.warm hW G, hDc.weaken (fun _ _ _ _ => trivial)⟩)⟩ rfl rfl hl.1 rfl (lv_room (Nat.le_of_ble_eq_true rfl)) dX7_person_59 ⟨Nat.le_of_ble_eq_true rfl, Nat.le_of_ble_eq_true rfl⟩) hS (fun q _ h => hFc q h) hFc (fun q u t H1 locs ht hvm hw hB hz1 hk1 hS => ?_)
          obtain ⟨rfl, rfl⟩ := hw
          obtain ⟨hP1, hD1⟩ := hB
          rw [ht] at hP1
          obtain ⟨hP, hD⟩ := va_join (wr := [0].filterMap (fun i => ((wB g B ++ wT cs (fun i => g (1 + i)) N))[i]?)) (w1 := (wT cs (fun i => g (1 + i)) r59.2)) hP hD [1, 2, 3, 4, 5, 6, 7, 8, 9, 10, 11] [0] rfl rfl (by decide) (by decide) hk1 hFc hP1 hD1
          generalize H1 = H at hP hS ⊢
          have hP := hP.sub (ws' := (wB g B ++ wT cs (fun i => g (1 + i)) r59.2)) [0, 1, 2, 3, 4, 5, 6, 7, 8, 9, 10, 11] rfl
          have hD := hD.sub (ws' := (wB g B ++ wT cs (fun i => g (1 + i)) r59.2)) [0, 1, 2, 3, 4, 5, 6, 7, 8, 9, 10, 11] (by decide) rfl
          exact hR _ _ _ _ _ _ dX7_person_62 hf hP hD hS
        · replace hf := it_f c4 hf
          refine lv_aload_n hx hb dX7_person_47 rfl (lv_at hl 0 rfl) ?_
          obtain ⟨r48, hr48, hf⟩ := bn_e hf
          have hPc := hP.sub (ws' := (wB g B)) [0] rfl
          have hDc := hD.sub (ws' := (wB g B)) [0] (by decide) rfl
          have hFc := va_free (wc := (wB g B)) hD hS hA [0] rfl
          refine va_calli (va_runV (As := []) (rest := []) C (c_X7_full l dC dI cs g s.heap.size B r48 hr48) (cwV 0 hts gX7_person_X7_full rfl rfl rfl (by decide +kernel) ⟨Nat.le_of_ble_eq_true rfl, Nat.le_of_ble_eq_true rfl⟩) ⟨(fun a U g mk q => ⟨q.1, q.2.1, q.2.2.1, GE.calling q.2.2.2.1, q.2.2.2.2⟩), va_recv hK hPc (ci := 7) (q0 := 0) rfl rfl, (fun U hU hW => ⟨rfl, by rw [hU], by rw [hU]; exact hPc, GE.warm hW G, hDc.weaken (fun _ _ _ _ => trivial)⟩)⟩ rfl rfl hl.1 rfl (lv_room (Nat.le_of_ble_eq_true rfl)) dX7_person_48 ⟨Nat.le_of_ble_eq_true rfl, Nat.le_of_ble_eq_true rfl⟩) hS (fun q _ h => hFc q h) hFc (fun q u t H1 locs ht hvm hw hB hz1 hk1 hS => ?_)
          obtain ⟨rfl, rfl⟩ := hw
          obtain ⟨hP1, hD1⟩ := hB
          rw [ht] at hP1
          obtain ⟨hP, hD⟩ := va_join (wr := [1, 2, 3, 4, 5, 6, 7, 8, 9, 10, 11].filterMap (fun i => ((wB g B ++ wT cs (fun i => g (1 + i)) N))[i]?)) (w1 := (wB g r48.2)) hP hD [0] [1, 2, 3, 4, 5, 6, 7, 8, 9, 10, 11] rfl rfl (by decide) (by decide) hk1 hFc hP1 hD1
          generalize H1 = H at hP hS ⊢
          have hP := hP.sub (ws' := (wB g r48.2 ++ wT cs (fun i => g (1 + i)) N)) [11, 0, 1, 2, 3, 4, 5, 6, 7, 8, 9, 10] rfl
          have hD := hD.sub (ws' := (wB g r48.2 ++ wT cs (fun i => g (1 + i)) N)) [11, 0, 1, 2, 3, 4, 5, 6, 7, 8, 9, 10] (by decide) rfl
          exact hR _ _ _ _ _ _ dX7_person_51 hf hP hD hS
      · replace hf := it_t c3 hf
        exact b_X7_person_30 C G hA hR B N _ _ _ (lv_sub hl [0] rfl) hP hD hS hf

theorem in_X7_loan_X5 : ∀ w ∈ wsX50, w ∈ wsX7_loan := by decide +kernel
theorem in_X7_loan_X7 : ∀ w ∈ wsX70, w ∈ wsX7_loan := by decide +kernel
def f_X7_loan_31 (B : Nat → Int32) (N : Tw)  : Option (Int32 × (Nat → Int32) × Tw) :=
  bn (f_X7_bad B) fun r32 =>
  some (r32.1, (r32.2, N))
set_option maxHeartbeats 4000000 in
set_option maxRecDepth 100000 in
theorem b_X7_loan_31 {p : Program} {l : Launch} {e : Env} {s : State} {m : MethodId} {args : Array Value} {below : List Frame} {meth : Method} {c : Code} {Q : State → Prop} {dC : Nat → ClassId} {dI : Nat → Nat → Nat} {cs : Nat → ClassId} {A : Nat → Prop} {g : Nat → Nat} {res : Int32 × (Nat → Int32) × Tw} (C : CallFix p m c cX7_loan 4 s args wsX7_loan RX7) (G : GE dC dI cs s) (hA : ∀ q : Nat, s.heap.size ≤ q → A q) (hR : RTi p l e ({ frames := 1, cells := 0, slots := 0, locals := 23 }) s m args below meth c cX7_loan Q (dC, dI) A (fun u : (Nat → Int32) × Tw => (wB g u.1 ++ wT cs (fun i => g (1 + i)) u.2)) res) (B : Nat → Int32) (N : Tw)   (H : Heap) (locs : List Loc) (ls : Array Slot) (hl : lv_has ls 4 [(0, .ref (g 0))]) (hP : va_P (dC, dI) vwCl (wB g B ++ wT cs (fun i => g (1 + i)) N) H) (hD : va_D A (wB g B ++ wT cs (fun i => g (1 + i)) N)) (hS : va_S A s.heap H locs) (hf : f_X7_loan_31 B N = some res) : W p l e ({ frames := 1, cells := 0, slots := 0, locals := 23 }) s m args below meth c H locs 0 0 Q (F0 m 31 ls []) := by
  obtain ⟨hx, hb, hml, hown, hts⟩ := id C
  obtain ⟨hK, hN⟩ := id G
  unfold f_X7_loan_31 at hf
  refine lv_aload_n hx hb dX7_loan_31 rfl (lv_at hl 0 rfl) ?_
  obtain ⟨r32, hr32, hf⟩ := bn_e hf
  have hPc := hP.sub (ws' := (wB g B)) [0] rfl
  have hDc := hD.sub (ws' := (wB g B)) [0] (by decide) rfl
  have hFc := va_free (wc := (wB g B)) hD hS hA [0] rfl
  refine va_calli (va_runV (As := []) (rest := []) C (c_X7_bad l dC dI cs g H.size B r32 hr32) (cwV 0 hts gX7_loan_X7_bad rfl rfl rfl (by decide +kernel) ⟨Nat.le_of_ble_eq_true rfl, Nat.le_of_ble_eq_true rfl⟩) ⟨(fun a U g mk q => ⟨q.1, q.2.1, q.2.2.1, GE.calling q.2.2.2.1, q.2.2.2.2⟩), va_recv hK hPc (ci := 7) (q0 := 0) rfl rfl, (fun U hU hW => ⟨rfl, by rw [hU], by rw [hU]; exact hPc, GE.warm hW G, hDc.weaken (fun _ _ _ _ => trivial)⟩)⟩ rfl rfl hl.1 rfl (lv_room (Nat.le_of_ble_eq_true rfl)) dX7_loan_32 ⟨Nat.le_of_ble_eq_true rfl, Nat.le_of_ble_eq_true rfl⟩) hS (fun q _ h => hFc q h) hFc (fun q u t H1 locs ht hvm hw hB hz1 hk1 hS => ?_)
  obtain ⟨rfl, rfl⟩ := hw
  obtain ⟨hP1, hD1⟩ := hB
  rw [ht] at hP1
  obtain ⟨hP, hD⟩ := va_join (wr := [1, 2, 3, 4, 5, 6, 7, 8, 9, 10, 11].filterMap (fun i => ((wB g B ++ wT cs (fun i => g (1 + i)) N))[i]?)) (w1 := (wB g r32.2)) hP hD [0] [1, 2, 3, 4, 5, 6, 7, 8, 9, 10, 11] rfl rfl (by decide) (by decide) hk1 hFc hP1 hD1
  generalize H1 = H at hP hS ⊢
  have hP := hP.sub (ws' := (wB g r32.2 ++ wT cs (fun i => g (1 + i)) N)) [11, 0, 1, 2, 3, 4, 5, 6, 7, 8, 9, 10] rfl
  have hD := hD.sub (ws' := (wB g r32.2 ++ wT cs (fun i => g (1 + i)) N)) [11, 0, 1, 2, 3, 4, 5, 6, 7, 8, 9, 10] (by decide) rfl
  exact hR _ _ _ _ _ _ dX7_loan_35 hf hP hD hS
def f_X7_loan (x1 : Int32) (x2 : Int32) (x3 : Int32) (B : Nat → Int32) (N : Tw) : Option (Int32 × (Nat → Int32) × Tw) :=
  bn (f_X5_hasPerson x1 N) fun r5 =>
  if r5 = 0 then (
    f_X7_loan_31 B N
  ) else (
    bn (f_X7_within x2 (1 : Int32) (99 : Int32)) fun r15 =>
    if r15 = 0 then (
      f_X7_loan_31 B N
    ) else (
      bn (f_X7_within x3 (1 : Int32) (12 : Int32)) fun r25 =>
      if r25 = 0 then (
        f_X7_loan_31 B N
      ) else (
        if (N.1 5) < (8 : Int32) then (
          bn (f_X5_addLoan x1 x2 x3 N) fun r60 =>
          some (r60.1, (B, r60.2))
        ) else (
          bn (f_X7_full B) fun r49 =>
          some (r49.1, (r49.2, N))
        )
      )
    )
  )
set_option maxHeartbeats 4000000 in
set_option maxRecDepth 100000 in
theorem c_X7_loan (l : Launch) (dC : Nat → ClassId) (dI : Nat → Nat → Nat) (cs : Nat → ClassId) (g : Nat → Nat) (sz : Nat) (B : Nat → Int32) (N : Tw) (x1 : Int32) (x2 : Int32) (x3 : Int32) (res : Int32 × (Nat → Int32) × Tw) (hf : f_X7_loan x1 x2 x3 B N = some res) : Met l yX7_loan wsX7_loan ({ frames := 1, cells := 0, slots := 0, locals := 23 }) (va_Pc [.ref (g 0), .int (x1), .int (x2), .int (x3)] (fun U => U.heap.size = sz ∧ va_P (dC, dI) vwCl (wB g B ++ wT cs (fun i => g (1 + i)) N) U.heap ∧ GE dC dI cs U ∧ va_D (fun _ => True) (wB g B ++ wT cs (fun i => g (1 + i)) N))) (va_Qi (fun r (u : (Nat → Int32) × Tw) => r = res.1 ∧ u = res.2) (fun u t => va_P (dC, dI) vwCl ((fun u : (Nat → Int32) × Tw => (wB g u.1 ++ wT cs (fun i => g (1 + i)) u.2)) u) t.heap ∧ va_D (va_A (wB g B ++ wT cs (fun i => g (1 + i)) N) sz) ((fun u : (Nat → Int32) × Tw => (wB g u.1 ++ wT cs (fun i => g (1 + i)) u.2)) u)) (va_A (wB g B ++ wT cs (fun i => g (1 + i)) N) sz)) 0 0 (va_A (wB g B ++ wT cs (fun i => g (1 + i)) N) sz) := by
  refine Met.ofW (cc := cX7_loan) (maxL := 4) (ret := (some .int)) (by decide) rfl ?_
  intro p e s m args below meth c s₁ Bd hml hv
  obtain ⟨rfl, hsz, hP, G, hD0⟩ := hv
  have hts := atoms_spec (ws := wsX7_loan) Bd.pre
  have hown : s.vm.findClass RX7 = some m.cls := findClass_of_methodNamed Bd.named
  have hlocks := Bd.notSynchronized
  have hx := Bd.exec
  have hb := Bd.bytes
  have hr := Bd.returns
  have C : CallFix p m c cX7_loan 4 s _ wsX7_loan RX7 := ⟨hx, hb, hml, hown, hts⟩
  obtain ⟨hK, hN⟩ := id G
  subst hsz
  have hD := hD0.self (sz := s.heap.size)
  generalize hAe : va_A (wB g B ++ wT cs (fun i => g (1 + i)) N) s.heap.size = A at hD ⊢
  have hA : ∀ q : Nat, s.heap.size ≤ q → A q := fun q h => by rw [← hAe]; exact Or.inr h
  have hS : va_S A s.heap s.heap [] := va_S.rf
  have hR : RTi p l e ({ frames := 1, cells := 0, slots := 0, locals := 23 }) s m ([.ref (g 0), .int (x1), .int (x2), .int (x3)] : List Value).toArray below meth c cX7_loan (MQ below (va_Qi (fun r (u : (Nat → Int32) × Tw) => r = res.1 ∧ u = res.2) (fun u t => va_P (dC, dI) vwCl ((fun u : (Nat → Int32) × Tw => (wB g u.1 ++ wT cs (fun i => g (1 + i)) u.2)) u) t.heap ∧ va_D A ((fun u : (Nat → Int32) × Tw => (wB g u.1 ++ wT cs (fun i => g (1 + i)) u.2)) u)) A) ([.ref (g 0), .int (x1), .int (x2), .int (x3)] : List Value).toArray s 0 0 A) (dC, dI) A (fun u : (Nat → Int32) × Tw => (wB g u.1 ++ wT cs (fun i => g (1 + i)) u.2)) res := fun H locs pc ls r u dd h hP hD hS => W.iret hx hb hr (fun t ht hW => ⟨⟨r, u, rfl, by cases h; exact ⟨rfl, rfl⟩, by rw [ht]; exact hP, hD⟩, hS.F ht⟩) hS.2.2 dd
  have hl := lv_entry ([.ref (g 0), .int (x1), .int (x2), .int (x3)]) (n := 4) (Nat.le_of_ble_eq_true rfl)
  rw [lg_entry_eq]
  generalize (lg_sl ([.ref (g 0), .int (x1), .int (x2), .int (x3)]) ++ List.replicate (4 - (lg_sl ([.ref (g 0), .int (x1), .int (x2), .int (x3)])).length) Slot.unset).toArray = ls at hl ⊢
  have hl : lv_has ls 4 [(0, .ref (g 0)), (1, .int (x1)), (2, .int (x2)), (3, .int (x3))] := hl
  unfold f_X7_loan at hf
  refine lv_aload_n hx hb dX7_loan_0 rfl (lv_at hl 0 rfl) ?_
  refine va_get (D := (dC, dI)) (ci := 7) (v := .ref (g 1)) (C := RX7) (T := TX7) (N := 11) hx hb hts in_X7_loan_X7 hown hK hP 0 rfl rfl 0 (by decide) (hts (.fieldLink RX7 10 "BackLoans" "now" "LBackLoans$Town;") (by decide +kernel)) (fun _ h9 => h9) rfl dX7_loan_1 ?_
  refine lv_iload_n hx hb dX7_loan_4 rfl (lv_at hl 1 rfl) ?_
  obtain ⟨r5, hr5, hf⟩ := bn_e hf
  have hPc := hP.sub (ws' := (wT cs (fun i => g (1 + i)) N)) [1, 2, 3, 4, 5, 6, 7, 8, 9, 10, 11] rfl
  refine vp_callSi (W.runV (As := [.int (x1)]) (rest := []) C (c_X5_hasPerson l dC dI cs (fun i => g (1 + i)) N x1 r5 hr5) (cwV 1 hts gX7_loan_X5_hasPerson rfl rfl rfl (by decide +kernel) ⟨Nat.le_of_ble_eq_true rfl, Nat.le_of_ble_eq_true rfl⟩) ⟨(fun a U g mk q => ⟨q.1, q.2.1, GE.calling q.2.2⟩), va_recv hK hPc (ci := 5) (q0 := 0) rfl rfl, (fun U hU hW => ⟨rfl, by rw [hU]; exact hPc, GE.warm hW G⟩)⟩ rfl rfl hl.1 rfl (lv_room (Nat.le_of_ble_eq_true rfl)) dX7_loan_5 ⟨Nat.le_of_ble_eq_true rfl, Nat.le_of_ble_eq_true rfl⟩) (fun qr5 hqr5 => ?_)
  obtain ⟨hqr5, hnr5⟩ := hqr5
  obtain rfl := hqr5.symm
  refine lv_if_eq (tgt := 31) hx hb dX7_loan_8 (by decide) (fun c1 => ?_) (fun c1 => ?_)
  · replace hf := it_t c1 hf
    exact b_X7_loan_31 C G hA hR B N _ _ _ (lv_sub hl [0] rfl) hP hD hS hf
  · replace hf := it_f c1 hf
    refine lv_iload_n hx hb dX7_loan_11 rfl (lv_at hl 2 rfl) ?_
    refine lv_iconst (v := 1) hx hb dX7_loan_12 (by decide) ?_
    refine lv_bipush (v := 99) hx hb dX7_loan_13 (by decide) ?_
    obtain ⟨r15, hr15, hf⟩ := bn_e hf
    have hPc := hP.sub (ws' := ([] : va_W)) [] rfl
    refine vp_callSi (W.runS (As := [.int (x2), .int ((1 : Int32)), .int ((99 : Int32))]) (rest := []) C (c_X7_within l dC dI cs x2 (1 : Int32) (99 : Int32) r15 hr15) (va_cwS 3 hts gX7_loan_X7_within rfl rfl rfl (by decide +kernel) ⟨Nat.le_of_ble_eq_true rfl, Nat.le_of_ble_eq_true rfl⟩) ⟨(fun a U g mk q => ⟨q.1, q.2.1, GE.calling q.2.2⟩), (fun U hU hW => ⟨rfl, by rw [hU]; exact hPc, GE.warm hW G⟩)⟩ rfl rfl hl.1 rfl (lv_room (Nat.le_of_ble_eq_true rfl)) dX7_loan_15 ⟨Nat.le_of_ble_eq_true rfl, Nat.le_of_ble_eq_true rfl⟩) (fun qr15 hqr15 => ?_)
    obtain ⟨hqr15, hnr15⟩ := hqr15
    obtain rfl := hqr15.symm
    refine lv_if_eq (tgt := 31) hx hb dX7_loan_18 (by decide) (fun c2 => ?_) (fun c2 => ?_)
    · replace hf := it_t c2 hf
      exact b_X7_loan_31 C G hA hR B N _ _ _ (lv_sub hl [0] rfl) hP hD hS hf
    · replace hf := it_f c2 hf
      refine lv_iload_n hx hb dX7_loan_21 rfl (lv_at hl 3 rfl) ?_
      refine lv_iconst (v := 1) hx hb dX7_loan_22 (by decide) ?_
      refine lv_bipush (v := 12) hx hb dX7_loan_23 (by decide) ?_
      obtain ⟨r25, hr25, hf⟩ := bn_e hf
      have hPc := hP.sub (ws' := ([] : va_W)) [] rfl
      refine vp_callSi (W.runS (As := [.int (x3), .int ((1 : Int32)), .int ((12 : Int32))]) (rest := []) C (c_X7_within l dC dI cs x3 (1 : Int32) (12 : Int32) r25 hr25) (va_cwS 3 hts gX7_loan_X7_within rfl rfl rfl (by decide +kernel) ⟨Nat.le_of_ble_eq_true rfl, Nat.le_of_ble_eq_true rfl⟩) ⟨(fun a U g mk q => ⟨q.1, q.2.1, GE.calling q.2.2⟩), (fun U hU hW => ⟨rfl, by rw [hU]; exact hPc, GE.warm hW G⟩)⟩ rfl rfl hl.1 rfl (lv_room (Nat.le_of_ble_eq_true rfl)) dX7_loan_25 ⟨Nat.le_of_ble_eq_true rfl, Nat.le_of_ble_eq_true rfl⟩) (fun qr25 hqr25 => ?_)
      obtain ⟨hqr25, hnr25⟩ := hqr25
      obtain rfl := hqr25.symm
      refine lv_if_ne (tgt := 36) hx hb dX7_loan_28 (by decide) (fun c3 => ?_) (fun c3 => ?_)
      · replace hf := it_f c3 hf
        refine lv_aload_n hx hb dX7_loan_36 rfl (lv_at hl 0 rfl) ?_
        refine va_get (D := (dC, dI)) (ci := 7) (v := .ref (g 1)) (C := RX7) (T := TX7) (N := 11) hx hb hts in_X7_loan_X7 hown hK hP 0 rfl rfl 0 (by decide) (hts (.fieldLink RX7 10 "BackLoans" "now" "LBackLoans$Town;") (by decide +kernel)) (fun _ h9 => h9) rfl dX7_loan_37 ?_
        refine va_get (D := (dC, dI)) (ci := 5) (v := .int ((N.1 5))) (C := RX5) (T := TX5) (N := 17) hx hb hts in_X7_loan_X5 hown hK hP 1 rfl rfl 5 (by decide) (hts (.fieldLink RX7 91 "BackLoans$Town" "loans" "I") (by decide +kernel)) (fun _ h9 => h9) rfl dX7_loan_40 ?_
        refine lv_bipush (v := 8) hx hb dX7_loan_43 (by decide) ?_
        refine lv_icmp_lt (tgt := 53) hx hb dX7_loan_45 (by decide) (fun c4 => ?_) (fun c4 => ?_)
        · replace hf := it_t c4 hf
          refine lv_aload_n hx hb dX7_loan_53 rfl (lv_at hl 0 rfl) ?_
          refine va_get (D := (dC, dI)) (ci := 7) (v := .ref (g 1)) (C := RX7) (T := TX7) (N := 11) hx hb hts in_X7_loan_X7 hown hK hP 0 rfl rfl 0 (by decide) (hts (.fieldLink RX7 10 "BackLoans" "now" "LBackLoans$Town;") (by decide +kernel)) (fun _ h9 => h9) rfl dX7_loan_54 ?_
          refine lv_iload_n hx hb dX7_loan_57 rfl (lv_at hl 1 rfl) ?_
          refine lv_iload_n hx hb dX7_loan_58 rfl (lv_at hl 2 rfl) ?_
          refine lv_iload_n hx hb dX7_loan_59 rfl (lv_at hl 3 rfl) ?_
          obtain ⟨r60, hr60, hf⟩ := bn_e hf
          have hPc := hP.sub (ws' := (wT cs (fun i => g (1 + i)) N)) [1, 2, 3, 4, 5, 6, 7, 8, 9, 10, 11] rfl
          have hDc := hD.sub (ws' := (wT cs (fun i => g (1 + i)) N)) [1, 2, 3, 4, 5, 6, 7, 8, 9, 10, 11] (by decide) rfl
          have hFc := va_free (wc := (wT cs (fun i => g (1 + i)) N)) hD hS hA [1, 2, 3, 4, 5, 6, 7, 8, 9, 10, 11] rfl
          refine va_calli (va_runV (As := [.int (x1), .int (x2), .int (x3)]) (rest := []) C (c_X5_addLoan l dC dI cs (fun i => g (1 + i)) s.heap.size N x1 x2 x3 r60 hr60) (cwV 3 hts gX7_loan_X5_addLoan rfl rfl rfl (by decide +kernel) ⟨Nat.le_of_ble_eq_true rfl, Nat.le_of_ble_eq_true rfl⟩) ⟨(fun a U g mk q => ⟨q.1, q.2.1, q.2.2.1, GE.calling q.2.2.2.1, q.2.2.2.2⟩), va_recv hK hPc (ci := 5) (q0 := 0) rfl rfl, (fun U hU hW => ⟨rfl, by rw [hU], by rw [hU]; exact hPc, GE.warm hW G, hDc.weaken (fun _ _ _ _ => trivial)⟩)⟩ rfl rfl hl.1 rfl (lv_room (Nat.le_of_ble_eq_true rfl)) dX7_loan_60 ⟨Nat.le_of_ble_eq_true rfl, Nat.le_of_ble_eq_true rfl⟩) hS (fun q _ h => hFc q h) hFc (fun q u t H1 locs ht hvm hw hB hz1 hk1 hS => ?_)
          obtain ⟨rfl, rfl⟩ := hw
          obtain ⟨hP1, hD1⟩ := hB
          rw [ht] at hP1
          obtain ⟨hP, hD⟩ := va_join (wr := [0].filterMap (fun i => ((wB g B ++ wT cs (fun i => g (1 + i)) N))[i]?)) (w1 := (wT cs (fun i => g (1 + i)) r60.2)) hP hD [1, 2, 3, 4, 5, 6, 7, 8, 9, 10, 11] [0] rfl rfl (by decide) (by decide) hk1 hFc hP1 hD1
          generalize H1 = H at hP hS ⊢
          have hP := hP.sub (ws' := (wB g B ++ wT cs (fun i => g (1 + i)) r60.2)) [0, 1, 2, 3, 4, 5, 6, 7, 8, 9, 10, 11] rfl
          have hD := hD.sub (ws' := (wB g B ++ wT cs (fun i => g (1 + i)) r60.2)) [0, 1, 2, 3, 4, 5, 6, 7, 8, 9, 10, 11] (by decide) rfl
          exact hR _ _ _ _ _ _ dX7_loan_63 hf hP hD hS
        · replace hf := it_f c4 hf
          refine lv_aload_n hx hb dX7_loan_48 rfl (lv_at hl 0 rfl) ?_
          obtain ⟨r49, hr49, hf⟩ := bn_e hf
          have hPc := hP.sub (ws' := (wB g B)) [0] rfl
          have hDc := hD.sub (ws' := (wB g B)) [0] (by decide) rfl
          have hFc := va_free (wc := (wB g B)) hD hS hA [0] rfl
          refine va_calli (va_runV (As := []) (rest := []) C (c_X7_full l dC dI cs g s.heap.size B r49 hr49) (cwV 0 hts gX7_loan_X7_full rfl rfl rfl (by decide +kernel) ⟨Nat.le_of_ble_eq_true rfl, Nat.le_of_ble_eq_true rfl⟩) ⟨(fun a U g mk q => ⟨q.1, q.2.1, q.2.2.1, GE.calling q.2.2.2.1, q.2.2.2.2⟩), va_recv hK hPc (ci := 7) (q0 := 0) rfl rfl, (fun U hU hW => ⟨rfl, by rw [hU], by rw [hU]; exact hPc, GE.warm hW G, hDc.weaken (fun _ _ _ _ => trivial)⟩)⟩ rfl rfl hl.1 rfl (lv_room (Nat.le_of_ble_eq_true rfl)) dX7_loan_49 ⟨Nat.le_of_ble_eq_true rfl, Nat.le_of_ble_eq_true rfl⟩) hS (fun q _ h => hFc q h) hFc (fun q u t H1 locs ht hvm hw hB hz1 hk1 hS => ?_)
          obtain ⟨rfl, rfl⟩ := hw
          obtain ⟨hP1, hD1⟩ := hB
          rw [ht] at hP1
          obtain ⟨hP, hD⟩ := va_join (wr := [1, 2, 3, 4, 5, 6, 7, 8, 9, 10, 11].filterMap (fun i => ((wB g B ++ wT cs (fun i => g (1 + i)) N))[i]?)) (w1 := (wB g r49.2)) hP hD [0] [1, 2, 3, 4, 5, 6, 7, 8, 9, 10, 11] rfl rfl (by decide) (by decide) hk1 hFc hP1 hD1
          generalize H1 = H at hP hS ⊢
          have hP := hP.sub (ws' := (wB g r49.2 ++ wT cs (fun i => g (1 + i)) N)) [11, 0, 1, 2, 3, 4, 5, 6, 7, 8, 9, 10] rfl
          have hD := hD.sub (ws' := (wB g r49.2 ++ wT cs (fun i => g (1 + i)) N)) [11, 0, 1, 2, 3, 4, 5, 6, 7, 8, 9, 10] (by decide) rfl
          exact hR _ _ _ _ _ _ dX7_loan_52 hf hP hD hS
      · replace hf := it_t c3 hf
        exact b_X7_loan_31 C G hA hR B N _ _ _ (lv_sub hl [0] rfl) hP hD hS hf

theorem in_X7_offer_X5 : ∀ w ∈ wsX50, w ∈ wsX7_offer := by decide +kernel
theorem in_X7_offer_X7 : ∀ w ∈ wsX70, w ∈ wsX7_offer := by decide +kernel
def f_X7_offer_20 (B : Nat → Int32) (N : Tw)  : Option (Int32 × (Nat → Int32) × Tw) :=
  bn (f_X7_bad B) fun r21 =>
  some (r21.1, (r21.2, N))
set_option maxHeartbeats 4000000 in
set_option maxRecDepth 100000 in
theorem b_X7_offer_20 {p : Program} {l : Launch} {e : Env} {s : State} {m : MethodId} {args : Array Value} {below : List Frame} {meth : Method} {c : Code} {Q : State → Prop} {dC : Nat → ClassId} {dI : Nat → Nat → Nat} {cs : Nat → ClassId} {A : Nat → Prop} {g : Nat → Nat} {res : Int32 × (Nat → Int32) × Tw} (C : CallFix p m c cX7_offer 3 s args wsX7_offer RX7) (G : GE dC dI cs s) (hA : ∀ q : Nat, s.heap.size ≤ q → A q) (hR : RTi p l e ({ frames := 1, cells := 0, slots := 0, locals := 22 }) s m args below meth c cX7_offer Q (dC, dI) A (fun u : (Nat → Int32) × Tw => (wB g u.1 ++ wT cs (fun i => g (1 + i)) u.2)) res) (B : Nat → Int32) (N : Tw)   (H : Heap) (locs : List Loc) (ls : Array Slot) (hl : lv_has ls 3 [(0, .ref (g 0))]) (hP : va_P (dC, dI) vwCl (wB g B ++ wT cs (fun i => g (1 + i)) N) H) (hD : va_D A (wB g B ++ wT cs (fun i => g (1 + i)) N)) (hS : va_S A s.heap H locs) (hf : f_X7_offer_20 B N = some res) : W p l e ({ frames := 1, cells := 0, slots := 0, locals := 22 }) s m args below meth c H locs 0 0 Q (F0 m 20 ls []) := by
  obtain ⟨hx, hb, hml, hown, hts⟩ := id C
  obtain ⟨hK, hN⟩ := id G
  unfold f_X7_offer_20 at hf
  refine lv_aload_n hx hb dX7_offer_20 rfl (lv_at hl 0 rfl) ?_
  obtain ⟨r21, hr21, hf⟩ := bn_e hf
  have hPc := hP.sub (ws' := (wB g B)) [0] rfl
  have hDc := hD.sub (ws' := (wB g B)) [0] (by decide) rfl
  have hFc := va_free (wc := (wB g B)) hD hS hA [0] rfl
  refine va_calli (va_runV (As := []) (rest := []) C (c_X7_bad l dC dI cs g H.size B r21 hr21) (cwV 0 hts gX7_offer_X7_bad rfl rfl rfl (by decide +kernel) ⟨Nat.le_of_ble_eq_true rfl, Nat.le_of_ble_eq_true rfl⟩) ⟨(fun a U g mk q => ⟨q.1, q.2.1, q.2.2.1, GE.calling q.2.2.2.1, q.2.2.2.2⟩), va_recv hK hPc (ci := 7) (q0 := 0) rfl rfl, (fun U hU hW => ⟨rfl, by rw [hU], by rw [hU]; exact hPc, GE.warm hW G, hDc.weaken (fun _ _ _ _ => trivial)⟩)⟩ rfl rfl hl.1 rfl (lv_room (Nat.le_of_ble_eq_true rfl)) dX7_offer_21 ⟨Nat.le_of_ble_eq_true rfl, Nat.le_of_ble_eq_true rfl⟩) hS (fun q _ h => hFc q h) hFc (fun q u t H1 locs ht hvm hw hB hz1 hk1 hS => ?_)
  obtain ⟨rfl, rfl⟩ := hw
  obtain ⟨hP1, hD1⟩ := hB
  rw [ht] at hP1
  obtain ⟨hP, hD⟩ := va_join (wr := [1, 2, 3, 4, 5, 6, 7, 8, 9, 10, 11].filterMap (fun i => ((wB g B ++ wT cs (fun i => g (1 + i)) N))[i]?)) (w1 := (wB g r21.2)) hP hD [0] [1, 2, 3, 4, 5, 6, 7, 8, 9, 10, 11] rfl rfl (by decide) (by decide) hk1 hFc hP1 hD1
  generalize H1 = H at hP hS ⊢
  have hP := hP.sub (ws' := (wB g r21.2 ++ wT cs (fun i => g (1 + i)) N)) [11, 0, 1, 2, 3, 4, 5, 6, 7, 8, 9, 10] rfl
  have hD := hD.sub (ws' := (wB g r21.2 ++ wT cs (fun i => g (1 + i)) N)) [11, 0, 1, 2, 3, 4, 5, 6, 7, 8, 9, 10] (by decide) rfl
  exact hR _ _ _ _ _ _ dX7_offer_24 hf hP hD hS
def f_X7_offer (x1 : Int32) (x2 : Int32) (B : Nat → Int32) (N : Tw) : Option (Int32 × (Nat → Int32) × Tw) :=
  bn (f_X7_within x1 (1 : Int32) (99 : Int32)) fun r4 =>
  if r4 = 0 then (
    f_X7_offer_20 B N
  ) else (
    bn (f_X7_within x2 (1 : Int32) (12 : Int32)) fun r14 =>
    if r14 = 0 then (
      f_X7_offer_20 B N
    ) else (
      if (N.1 6) < (8 : Int32) then (
        bn (f_X5_addOffer x1 x2 N) fun r48 =>
        some (r48.1, (B, r48.2))
      ) else (
        bn (f_X7_full B) fun r38 =>
        some (r38.1, (r38.2, N))
      )
    )
  )
set_option maxHeartbeats 4000000 in
set_option maxRecDepth 100000 in
theorem c_X7_offer (l : Launch) (dC : Nat → ClassId) (dI : Nat → Nat → Nat) (cs : Nat → ClassId) (g : Nat → Nat) (sz : Nat) (B : Nat → Int32) (N : Tw) (x1 : Int32) (x2 : Int32) (res : Int32 × (Nat → Int32) × Tw) (hf : f_X7_offer x1 x2 B N = some res) : Met l yX7_offer wsX7_offer ({ frames := 1, cells := 0, slots := 0, locals := 22 }) (va_Pc [.ref (g 0), .int (x1), .int (x2)] (fun U => U.heap.size = sz ∧ va_P (dC, dI) vwCl (wB g B ++ wT cs (fun i => g (1 + i)) N) U.heap ∧ GE dC dI cs U ∧ va_D (fun _ => True) (wB g B ++ wT cs (fun i => g (1 + i)) N))) (va_Qi (fun r (u : (Nat → Int32) × Tw) => r = res.1 ∧ u = res.2) (fun u t => va_P (dC, dI) vwCl ((fun u : (Nat → Int32) × Tw => (wB g u.1 ++ wT cs (fun i => g (1 + i)) u.2)) u) t.heap ∧ va_D (va_A (wB g B ++ wT cs (fun i => g (1 + i)) N) sz) ((fun u : (Nat → Int32) × Tw => (wB g u.1 ++ wT cs (fun i => g (1 + i)) u.2)) u)) (va_A (wB g B ++ wT cs (fun i => g (1 + i)) N) sz)) 0 0 (va_A (wB g B ++ wT cs (fun i => g (1 + i)) N) sz) := by
  refine Met.ofW (cc := cX7_offer) (maxL := 3) (ret := (some .int)) (by decide) rfl ?_
  intro p e s m args below meth c s₁ Bd hml hv
  obtain ⟨rfl, hsz, hP, G, hD0⟩ := hv
  have hts := atoms_spec (ws := wsX7_offer) Bd.pre
  have hown : s.vm.findClass RX7 = some m.cls := findClass_of_methodNamed Bd.named
  have hlocks := Bd.notSynchronized
  have hx := Bd.exec
  have hb := Bd.bytes
  have hr := Bd.returns
  have C : CallFix p m c cX7_offer 3 s _ wsX7_offer RX7 := ⟨hx, hb, hml, hown, hts⟩
  obtain ⟨hK, hN⟩ := id G
  subst hsz
  have hD := hD0.self (sz := s.heap.size)
  generalize hAe : va_A (wB g B ++ wT cs (fun i => g (1 + i)) N) s.heap.size = A at hD ⊢
  have hA : ∀ q : Nat, s.heap.size ≤ q → A q := fun q h => by rw [← hAe]; exact Or.inr h
  have hS : va_S A s.heap s.heap [] := va_S.rf
  have hR : RTi p l e ({ frames := 1, cells := 0, slots := 0, locals := 22 }) s m ([.ref (g 0), .int (x1), .int (x2)] : List Value).toArray below meth c cX7_offer (MQ below (va_Qi (fun r (u : (Nat → Int32) × Tw) => r = res.1 ∧ u = res.2) (fun u t => va_P (dC, dI) vwCl ((fun u : (Nat → Int32) × Tw => (wB g u.1 ++ wT cs (fun i => g (1 + i)) u.2)) u) t.heap ∧ va_D A ((fun u : (Nat → Int32) × Tw => (wB g u.1 ++ wT cs (fun i => g (1 + i)) u.2)) u)) A) ([.ref (g 0), .int (x1), .int (x2)] : List Value).toArray s 0 0 A) (dC, dI) A (fun u : (Nat → Int32) × Tw => (wB g u.1 ++ wT cs (fun i => g (1 + i)) u.2)) res := fun H locs pc ls r u dd h hP hD hS => W.iret hx hb hr (fun t ht hW => ⟨⟨r, u, rfl, by cases h; exact ⟨rfl, rfl⟩, by rw [ht]; exact hP, hD⟩, hS.F ht⟩) hS.2.2 dd
  have hl := lv_entry ([.ref (g 0), .int (x1), .int (x2)]) (n := 3) (Nat.le_of_ble_eq_true rfl)
  rw [lg_entry_eq]
  generalize (lg_sl ([.ref (g 0), .int (x1), .int (x2)]) ++ List.replicate (3 - (lg_sl ([.ref (g 0), .int (x1), .int (x2)])).length) Slot.unset).toArray = ls at hl ⊢
  have hl : lv_has ls 3 [(0, .ref (g 0)), (1, .int (x1)), (2, .int (x2))] := hl
  unfold f_X7_offer at hf
  refine lv_iload_n hx hb dX7_offer_0 rfl (lv_at hl 1 rfl) ?_
  refine lv_iconst (v := 1) hx hb dX7_offer_1 (by decide) ?_
  refine lv_bipush (v := 99) hx hb dX7_offer_2 (by decide) ?_
  obtain ⟨r4, hr4, hf⟩ := bn_e hf
  have hPc := hP.sub (ws' := ([] : va_W)) [] rfl
  refine vp_callSi (W.runS (As := [.int (x1), .int ((1 : Int32)), .int ((99 : Int32))]) (rest := []) C (c_X7_within l dC dI cs x1 (1 : Int32) (99 : Int32) r4 hr4) (va_cwS 3 hts gX7_offer_X7_within rfl rfl rfl (by decide +kernel) ⟨Nat.le_of_ble_eq_true rfl, Nat.le_of_ble_eq_true rfl⟩) ⟨(fun a U g mk q => ⟨q.1, q.2.1, GE.calling q.2.2⟩), (fun U hU hW => ⟨rfl, by rw [hU]; exact hPc, GE.warm hW G⟩)⟩ rfl rfl hl.1 rfl (lv_room (Nat.le_of_ble_eq_true rfl)) dX7_offer_4 ⟨Nat.le_of_ble_eq_true rfl, Nat.le_of_ble_eq_true rfl⟩) (fun qr4 hqr4 => ?_)
  obtain ⟨hqr4, hnr4⟩ := hqr4
  obtain rfl := hqr4.symm
  refine lv_if_eq (tgt := 20) hx hb dX7_offer_7 (by decide) (fun c1 => ?_) (fun c1 => ?_)
  · replace hf := it_t c1 hf
    exact b_X7_offer_20 C G hA hR B N _ _ _ (lv_sub hl [0] rfl) hP hD hS hf
  · replace hf := it_f c1 hf
    refine lv_iload_n hx hb dX7_offer_10 rfl (lv_at hl 2 rfl) ?_
    refine lv_iconst (v := 1) hx hb dX7_offer_11 (by decide) ?_
    refine lv_bipush (v := 12) hx hb dX7_offer_12 (by decide) ?_
    obtain ⟨r14, hr14, hf⟩ := bn_e hf
    have hPc := hP.sub (ws' := ([] : va_W)) [] rfl
    refine vp_callSi (W.runS (As := [.int (x2), .int ((1 : Int32)), .int ((12 : Int32))]) (rest := []) C (c_X7_within l dC dI cs x2 (1 : Int32) (12 : Int32) r14 hr14) (va_cwS 3 hts gX7_offer_X7_within rfl rfl rfl (by decide +kernel) ⟨Nat.le_of_ble_eq_true rfl, Nat.le_of_ble_eq_true rfl⟩) ⟨(fun a U g mk q => ⟨q.1, q.2.1, GE.calling q.2.2⟩), (fun U hU hW => ⟨rfl, by rw [hU]; exact hPc, GE.warm hW G⟩)⟩ rfl rfl hl.1 rfl (lv_room (Nat.le_of_ble_eq_true rfl)) dX7_offer_14 ⟨Nat.le_of_ble_eq_true rfl, Nat.le_of_ble_eq_true rfl⟩) (fun qr14 hqr14 => ?_)
    obtain ⟨hqr14, hnr14⟩ := hqr14
    obtain rfl := hqr14.symm
    refine lv_if_ne (tgt := 25) hx hb dX7_offer_17 (by decide) (fun c2 => ?_) (fun c2 => ?_)
    · replace hf := it_f c2 hf
      refine lv_aload_n hx hb dX7_offer_25 rfl (lv_at hl 0 rfl) ?_
      refine va_get (D := (dC, dI)) (ci := 7) (v := .ref (g 1)) (C := RX7) (T := TX7) (N := 11) hx hb hts in_X7_offer_X7 hown hK hP 0 rfl rfl 0 (by decide) (hts (.fieldLink RX7 10 "BackLoans" "now" "LBackLoans$Town;") (by decide +kernel)) (fun _ h9 => h9) rfl dX7_offer_26 ?_
      refine va_get (D := (dC, dI)) (ci := 5) (v := .int ((N.1 6))) (C := RX5) (T := TX5) (N := 17) hx hb hts in_X7_offer_X5 hown hK hP 1 rfl rfl 6 (by decide) (hts (.fieldLink RX7 97 "BackLoans$Town" "offers" "I") (by decide +kernel)) (fun _ h9 => h9) rfl dX7_offer_29 ?_
      refine lv_bipush (v := 8) hx hb dX7_offer_32 (by decide) ?_
      refine lv_icmp_lt (tgt := 42) hx hb dX7_offer_34 (by decide) (fun c3 => ?_) (fun c3 => ?_)
      · replace hf := it_t c3 hf
        refine lv_aload_n hx hb dX7_offer_42 rfl (lv_at hl 0 rfl) ?_
        refine va_get (D := (dC, dI)) (ci := 7) (v := .ref (g 1)) (C := RX7) (T := TX7) (N := 11) hx hb hts in_X7_offer_X7 hown hK hP 0 rfl rfl 0 (by decide) (hts (.fieldLink RX7 10 "BackLoans" "now" "LBackLoans$Town;") (by decide +kernel)) (fun _ h9 => h9) rfl dX7_offer_43 ?_
        refine lv_iload_n hx hb dX7_offer_46 rfl (lv_at hl 1 rfl) ?_
        refine lv_iload_n hx hb dX7_offer_47 rfl (lv_at hl 2 rfl) ?_
        obtain ⟨r48, hr48, hf⟩ := bn_e hf
        have hPc := hP.sub (ws' := (wT cs (fun i => g (1 + i)) N)) [1, 2, 3, 4, 5, 6, 7, 8, 9, 10, 11] rfl
        have hDc := hD.sub (ws' := (wT cs (fun i => g (1 + i)) N)) [1, 2, 3, 4, 5, 6, 7, 8, 9, 10, 11] (by decide) rfl
        have hFc := va_free (wc := (wT cs (fun i => g (1 + i)) N)) hD hS hA [1, 2, 3, 4, 5, 6, 7, 8, 9, 10, 11] rfl
        refine va_calli (va_runV (As := [.int (x1), .int (x2)]) (rest := []) C (c_X5_addOffer l dC dI cs (fun i => g (1 + i)) s.heap.size N x1 x2 r48 hr48) (cwV 2 hts gX7_offer_X5_addOffer rfl rfl rfl (by decide +kernel) ⟨Nat.le_of_ble_eq_true rfl, Nat.le_of_ble_eq_true rfl⟩) ⟨(fun a U g mk q => ⟨q.1, q.2.1, q.2.2.1, GE.calling q.2.2.2.1, q.2.2.2.2⟩), va_recv hK hPc (ci := 5) (q0 := 0) rfl rfl, (fun U hU hW => ⟨rfl, by rw [hU], by rw [hU]; exact hPc, GE.warm hW G, hDc.weaken (fun _ _ _ _ => trivial)⟩)⟩ rfl rfl hl.1 rfl (lv_room (Nat.le_of_ble_eq_true rfl)) dX7_offer_48 ⟨Nat.le_of_ble_eq_true rfl, Nat.le_of_ble_eq_true rfl⟩) hS (fun q _ h => hFc q h) hFc (fun q u t H1 locs ht hvm hw hB hz1 hk1 hS => ?_)
        obtain ⟨rfl, rfl⟩ := hw
        obtain ⟨hP1, hD1⟩ := hB
        rw [ht] at hP1
        obtain ⟨hP, hD⟩ := va_join (wr := [0].filterMap (fun i => ((wB g B ++ wT cs (fun i => g (1 + i)) N))[i]?)) (w1 := (wT cs (fun i => g (1 + i)) r48.2)) hP hD [1, 2, 3, 4, 5, 6, 7, 8, 9, 10, 11] [0] rfl rfl (by decide) (by decide) hk1 hFc hP1 hD1
        generalize H1 = H at hP hS ⊢
        have hP := hP.sub (ws' := (wB g B ++ wT cs (fun i => g (1 + i)) r48.2)) [0, 1, 2, 3, 4, 5, 6, 7, 8, 9, 10, 11] rfl
        have hD := hD.sub (ws' := (wB g B ++ wT cs (fun i => g (1 + i)) r48.2)) [0, 1, 2, 3, 4, 5, 6, 7, 8, 9, 10, 11] (by decide) rfl
        exact hR _ _ _ _ _ _ dX7_offer_51 hf hP hD hS
      · replace hf := it_f c3 hf
        refine lv_aload_n hx hb dX7_offer_37 rfl (lv_at hl 0 rfl) ?_
        obtain ⟨r38, hr38, hf⟩ := bn_e hf
        have hPc := hP.sub (ws' := (wB g B)) [0] rfl
        have hDc := hD.sub (ws' := (wB g B)) [0] (by decide) rfl
        have hFc := va_free (wc := (wB g B)) hD hS hA [0] rfl
        refine va_calli (va_runV (As := []) (rest := []) C (c_X7_full l dC dI cs g s.heap.size B r38 hr38) (cwV 0 hts gX7_offer_X7_full rfl rfl rfl (by decide +kernel) ⟨Nat.le_of_ble_eq_true rfl, Nat.le_of_ble_eq_true rfl⟩) ⟨(fun a U g mk q => ⟨q.1, q.2.1, q.2.2.1, GE.calling q.2.2.2.1, q.2.2.2.2⟩), va_recv hK hPc (ci := 7) (q0 := 0) rfl rfl, (fun U hU hW => ⟨rfl, by rw [hU], by rw [hU]; exact hPc, GE.warm hW G, hDc.weaken (fun _ _ _ _ => trivial)⟩)⟩ rfl rfl hl.1 rfl (lv_room (Nat.le_of_ble_eq_true rfl)) dX7_offer_38 ⟨Nat.le_of_ble_eq_true rfl, Nat.le_of_ble_eq_true rfl⟩) hS (fun q _ h => hFc q h) hFc (fun q u t H1 locs ht hvm hw hB hz1 hk1 hS => ?_)
        obtain ⟨rfl, rfl⟩ := hw
        obtain ⟨hP1, hD1⟩ := hB
        rw [ht] at hP1
        obtain ⟨hP, hD⟩ := va_join (wr := [1, 2, 3, 4, 5, 6, 7, 8, 9, 10, 11].filterMap (fun i => ((wB g B ++ wT cs (fun i => g (1 + i)) N))[i]?)) (w1 := (wB g r38.2)) hP hD [0] [1, 2, 3, 4, 5, 6, 7, 8, 9, 10, 11] rfl rfl (by decide) (by decide) hk1 hFc hP1 hD1
        generalize H1 = H at hP hS ⊢
        have hP := hP.sub (ws' := (wB g r38.2 ++ wT cs (fun i => g (1 + i)) N)) [11, 0, 1, 2, 3, 4, 5, 6, 7, 8, 9, 10] rfl
        have hD := hD.sub (ws' := (wB g r38.2 ++ wT cs (fun i => g (1 + i)) N)) [11, 0, 1, 2, 3, 4, 5, 6, 7, 8, 9, 10] (by decide) rfl
        exact hR _ _ _ _ _ _ dX7_offer_41 hf hP hD hS
    · replace hf := it_t c2 hf
      exact b_X7_offer_20 C G hA hR B N _ _ _ (lv_sub hl [0] rfl) hP hD hS hf

theorem in_X7_none_X5 : ∀ w ∈ wsX50, w ∈ wsX7_none := by decide +kernel
theorem in_X7_none_X7 : ∀ w ∈ wsX70, w ∈ wsX7_none := by decide +kernel
def f_X7_none  (B : Nat → Int32) (N : Tw) : Option (Int32 × Tw) :=
  lett ((upd N.1 6 ((0 : Int32)), N.2)) fun N_13 =>
  some ((N.1 6), N_13)
set_option maxHeartbeats 4000000 in
set_option maxRecDepth 100000 in
theorem c_X7_none (l : Launch) (dC : Nat → ClassId) (dI : Nat → Nat → Nat) (cs : Nat → ClassId) (g : Nat → Nat) (sz : Nat) (B : Nat → Int32) (N : Tw)  (res : Int32 × Tw) (hf : f_X7_none B N = some res) : Met l yX7_none wsX7_none ({ frames := 0, cells := 0, slots := 0, locals := 0 }) (va_Pc [.ref (g 0)] (fun U => U.heap.size = sz ∧ va_P (dC, dI) vwCl (wB g B ++ wT cs (fun i => g (1 + i)) N) U.heap ∧ GE dC dI cs U ∧ va_D (fun _ => True) (wB g B ++ wT cs (fun i => g (1 + i)) N))) (va_Qi (fun r (u : Tw) => r = res.1 ∧ u = res.2) (fun u t => va_P (dC, dI) vwCl ((fun u : Tw => (wB g B ++ wT cs (fun i => g (1 + i)) u)) u) t.heap ∧ va_D (va_A (wB g B ++ wT cs (fun i => g (1 + i)) N) sz) ((fun u : Tw => (wB g B ++ wT cs (fun i => g (1 + i)) u)) u)) (va_A (wB g B ++ wT cs (fun i => g (1 + i)) N) sz)) 0 0 (va_A (wB g B ++ wT cs (fun i => g (1 + i)) N) sz) := by
  refine Met.ofW (cc := cX7_none) (maxL := 2) (ret := (some .int)) (by decide) rfl ?_
  intro p e s m args below meth c s₁ Bd hml hv
  obtain ⟨rfl, hsz, hP, G, hD0⟩ := hv
  have hts := atoms_spec (ws := wsX7_none) Bd.pre
  have hown : s.vm.findClass RX7 = some m.cls := findClass_of_methodNamed Bd.named
  have hlocks := Bd.notSynchronized
  have hx := Bd.exec
  have hb := Bd.bytes
  have hr := Bd.returns
  have C : CallFix p m c cX7_none 2 s _ wsX7_none RX7 := ⟨hx, hb, hml, hown, hts⟩
  obtain ⟨hK, hN⟩ := id G
  subst hsz
  have hD := hD0.self (sz := s.heap.size)
  generalize hAe : va_A (wB g B ++ wT cs (fun i => g (1 + i)) N) s.heap.size = A at hD ⊢
  have hA : ∀ q : Nat, s.heap.size ≤ q → A q := fun q h => by rw [← hAe]; exact Or.inr h
  have hS : va_S A s.heap s.heap [] := va_S.rf
  have hR : RTi p l e ({ frames := 0, cells := 0, slots := 0, locals := 0 }) s m ([.ref (g 0)] : List Value).toArray below meth c cX7_none (MQ below (va_Qi (fun r (u : Tw) => r = res.1 ∧ u = res.2) (fun u t => va_P (dC, dI) vwCl ((fun u : Tw => (wB g B ++ wT cs (fun i => g (1 + i)) u)) u) t.heap ∧ va_D A ((fun u : Tw => (wB g B ++ wT cs (fun i => g (1 + i)) u)) u)) A) ([.ref (g 0)] : List Value).toArray s 0 0 A) (dC, dI) A (fun u : Tw => (wB g B ++ wT cs (fun i => g (1 + i)) u)) res := fun H locs pc ls r u dd h hP hD hS => W.iret hx hb hr (fun t ht hW => ⟨⟨r, u, rfl, by cases h; exact ⟨rfl, rfl⟩, by rw [ht]; exact hP, hD⟩, hS.F ht⟩) hS.2.2 dd
  have hl := lv_entry ([.ref (g 0)]) (n := 2) (Nat.le_of_ble_eq_true rfl)
  rw [lg_entry_eq]
  generalize (lg_sl ([.ref (g 0)]) ++ List.replicate (2 - (lg_sl ([.ref (g 0)])).length) Slot.unset).toArray = ls at hl ⊢
  have hl : lv_has ls 2 [(0, .ref (g 0))] := hl
  unfold f_X7_none at hf
  refine lv_aload_n hx hb dX7_none_0 rfl (lv_at hl 0 rfl) ?_
  refine va_get (D := (dC, dI)) (ci := 7) (v := .ref (g 1)) (C := RX7) (T := TX7) (N := 11) hx hb hts in_X7_none_X7 hown hK hP 0 rfl rfl 0 (by decide) (hts (.fieldLink RX7 10 "BackLoans" "now" "LBackLoans$Town;") (by decide +kernel)) (fun _ h9 => h9) rfl dX7_none_1 ?_
  refine va_get (D := (dC, dI)) (ci := 5) (v := .int ((N.1 6))) (C := RX5) (T := TX5) (N := 17) hx hb hts in_X7_none_X5 hown hK hP 1 rfl rfl 6 (by decide) (hts (.fieldLink RX7 97 "BackLoans$Town" "offers" "I") (by decide +kernel)) (fun _ h9 => h9) rfl dX7_none_4 ?_
  refine lv_istore_n (lv' := [(1, .int ((N.1 6))), (0, .ref (g 0))]) hx hb dX7_none_7 rfl hl (by decide) rfl (fun ls hl => ?_)
  refine lv_aload_n hx hb dX7_none_8 rfl (lv_at hl 1 rfl) ?_
  refine va_get (D := (dC, dI)) (ci := 7) (v := .ref (g 1)) (C := RX7) (T := TX7) (N := 11) hx hb hts in_X7_none_X7 hown hK hP 0 rfl rfl 0 (by decide) (hts (.fieldLink RX7 10 "BackLoans" "now" "LBackLoans$Town;") (by decide +kernel)) (fun _ h9 => h9) rfl dX7_none_9 ?_
  refine lv_iconst (v := 0) hx hb dX7_none_12 (by decide) ?_
  refine va_put (D := (dC, dI)) (ci := 5) (v := .int ((0 : Int32))) (ty := .int) (C := RX5) (T := TX5) (N := 17) hx hb hts in_X7_none_X5 tyX5 tyX5_ok nmX5 hown hK hP hD hS 1 rfl rfl 6 (by decide) (hts (.fieldLink RX7 97 "BackLoans$Town" "offers" "I") (by decide +kernel)) (fun _ h9 => h9) rfl (by decide +kernel) rfl rfl (Nat.le_of_ble_eq_true rfl) dX7_none_13 (fun H locs hP hD hS => ?_)
  obtain ⟨N_13, hP, hD, hf⟩ := st_nm (ws := fun N_13 : Tw => (wB g B ++ wT cs (fun i => g (1 + i)) N_13)) ((upd N.1 6 ((0 : Int32)), N.2)) hP hD hf
  refine lv_iload_n hx hb dX7_none_16 rfl (lv_at hl 0 rfl) ?_
  exact hR _ _ _ _ _ _ dX7_none_17 hf hP hD hS

theorem in_X7_type_X4 : ∀ w ∈ wsX40, w ∈ wsX7_type := by decide +kernel
theorem in_X7_type_X7 : ∀ w ∈ wsX70, w ∈ wsX7_type := by decide +kernel
def f_X7_type (x1 : Int32) (B : Nat → Int32) (X : Tx) : Option (Int32 × (Nat → Int32) × Tx) :=
  bn (f_X7_within x1 (0 : Int32) (127 : Int32)) fun r4 =>
  if r4 = 0 then (
    bn (f_X7_bad B) fun r11 =>
    some (r11.1, (r11.2, X))
  ) else (
    if (X.1 0) < (150 : Int32) then (
      bn (f_X4_add ((x1).toInt8.toInt32) X) fun r39 =>
      some ((r39.1 0), (B, r39))
    ) else (
      bn (f_X7_full B) fun r29 =>
      some (r29.1, (r29.2, X))
    )
  )
set_option maxHeartbeats 4000000 in
set_option maxRecDepth 100000 in
theorem c_X7_type (l : Launch) (dC : Nat → ClassId) (dI : Nat → Nat → Nat) (cs : Nat → ClassId) (g : Nat → Nat) (sz : Nat) (B : Nat → Int32) (X : Tx) (x1 : Int32) (res : Int32 × (Nat → Int32) × Tx) (hf : f_X7_type x1 B X = some res) : Met l yX7_type wsX7_type ({ frames := 1, cells := 0, slots := 0, locals := 22 }) (va_Pc [.ref (g 0), .int (x1)] (fun U => U.heap.size = sz ∧ va_P (dC, dI) vwCl (wB g B ++ wX cs (fun i => g (42 + i)) X) U.heap ∧ GE dC dI cs U ∧ va_D (fun _ => True) (wB g B ++ wX cs (fun i => g (42 + i)) X))) (va_Qi (fun r (u : (Nat → Int32) × Tx) => r = res.1 ∧ u = res.2) (fun u t => va_P (dC, dI) vwCl ((fun u : (Nat → Int32) × Tx => (wB g u.1 ++ wX cs (fun i => g (42 + i)) u.2)) u) t.heap ∧ va_D (va_A (wB g B ++ wX cs (fun i => g (42 + i)) X) sz) ((fun u : (Nat → Int32) × Tx => (wB g u.1 ++ wX cs (fun i => g (42 + i)) u.2)) u)) (va_A (wB g B ++ wX cs (fun i => g (42 + i)) X) sz)) 0 0 (va_A (wB g B ++ wX cs (fun i => g (42 + i)) X) sz) := by
  refine Met.ofW (cc := cX7_type) (maxL := 2) (ret := (some .int)) (by decide) rfl ?_
  intro p e s m args below meth c s₁ Bd hml hv
  obtain ⟨rfl, hsz, hP, G, hD0⟩ := hv
  have hts := atoms_spec (ws := wsX7_type) Bd.pre
  have hown : s.vm.findClass RX7 = some m.cls := findClass_of_methodNamed Bd.named
  have hlocks := Bd.notSynchronized
  have hx := Bd.exec
  have hb := Bd.bytes
  have hr := Bd.returns
  have C : CallFix p m c cX7_type 2 s _ wsX7_type RX7 := ⟨hx, hb, hml, hown, hts⟩
  obtain ⟨hK, hN⟩ := id G
  subst hsz
  have hD := hD0.self (sz := s.heap.size)
  generalize hAe : va_A (wB g B ++ wX cs (fun i => g (42 + i)) X) s.heap.size = A at hD ⊢
  have hA : ∀ q : Nat, s.heap.size ≤ q → A q := fun q h => by rw [← hAe]; exact Or.inr h
  have hS : va_S A s.heap s.heap [] := va_S.rf
  have hR : RTi p l e ({ frames := 1, cells := 0, slots := 0, locals := 22 }) s m ([.ref (g 0), .int (x1)] : List Value).toArray below meth c cX7_type (MQ below (va_Qi (fun r (u : (Nat → Int32) × Tx) => r = res.1 ∧ u = res.2) (fun u t => va_P (dC, dI) vwCl ((fun u : (Nat → Int32) × Tx => (wB g u.1 ++ wX cs (fun i => g (42 + i)) u.2)) u) t.heap ∧ va_D A ((fun u : (Nat → Int32) × Tx => (wB g u.1 ++ wX cs (fun i => g (42 + i)) u.2)) u)) A) ([.ref (g 0), .int (x1)] : List Value).toArray s 0 0 A) (dC, dI) A (fun u : (Nat → Int32) × Tx => (wB g u.1 ++ wX cs (fun i => g (42 + i)) u.2)) res := fun H locs pc ls r u dd h hP hD hS => W.iret hx hb hr (fun t ht hW => ⟨⟨r, u, rfl, by cases h; exact ⟨rfl, rfl⟩, by rw [ht]; exact hP, hD⟩, hS.F ht⟩) hS.2.2 dd
  have hl := lv_entry ([.ref (g 0), .int (x1)]) (n := 2) (Nat.le_of_ble_eq_true rfl)
  rw [lg_entry_eq]
  generalize (lg_sl ([.ref (g 0), .int (x1)]) ++ List.replicate (2 - (lg_sl ([.ref (g 0), .int (x1)])).length) Slot.unset).toArray = ls at hl ⊢
  have hl : lv_has ls 2 [(0, .ref (g 0)), (1, .int (x1))] := hl
  unfold f_X7_type at hf
  refine lv_iload_n hx hb dX7_type_0 rfl (lv_at hl 1 rfl) ?_
  refine lv_iconst (v := 0) hx hb dX7_type_1 (by decide) ?_
  refine lv_bipush (v := 127) hx hb dX7_type_2 (by decide) ?_
  obtain ⟨r4, hr4, hf⟩ := bn_e hf
  have hPc := hP.sub (ws' := ([] : va_W)) [] rfl
  refine vp_callSi (W.runS (As := [.int (x1), .int ((0 : Int32)), .int ((127 : Int32))]) (rest := []) C (c_X7_within l dC dI cs x1 (0 : Int32) (127 : Int32) r4 hr4) (va_cwS 3 hts gX7_type_X7_within rfl rfl rfl (by decide +kernel) ⟨Nat.le_of_ble_eq_true rfl, Nat.le_of_ble_eq_true rfl⟩) ⟨(fun a U g mk q => ⟨q.1, q.2.1, GE.calling q.2.2⟩), (fun U hU hW => ⟨rfl, by rw [hU]; exact hPc, GE.warm hW G⟩)⟩ rfl rfl hl.1 rfl (lv_room (Nat.le_of_ble_eq_true rfl)) dX7_type_4 ⟨Nat.le_of_ble_eq_true rfl, Nat.le_of_ble_eq_true rfl⟩) (fun qr4 hqr4 => ?_)
  obtain ⟨hqr4, hnr4⟩ := hqr4
  obtain rfl := hqr4.symm
  refine lv_if_ne (tgt := 15) hx hb dX7_type_7 (by decide) (fun c1 => ?_) (fun c1 => ?_)
  · replace hf := it_f c1 hf
    refine lv_aload_n hx hb dX7_type_15 rfl (lv_at hl 0 rfl) ?_
    refine va_get (D := (dC, dI)) (ci := 7) (v := .ref (g 42)) (C := RX7) (T := TX7) (N := 11) hx hb hts in_X7_type_X7 hown hK hP 0 rfl rfl 4 (by decide) (hts (.fieldLink RX7 36 "BackLoans" "text" "LBackLoans$Text;") (by decide +kernel)) (fun _ h9 => h9) rfl dX7_type_16 ?_
    refine va_get (D := (dC, dI)) (ci := 4) (v := .int ((X.1 0))) (C := RX4) (T := TX4) (N := 6) hx hb hts in_X7_type_X4 hown hK hP 1 rfl rfl 0 (by decide) (hts (.fieldLink RX7 104 "BackLoans$Text" "length" "I") (by decide +kernel)) (fun _ h9 => h9) rfl dX7_type_19 ?_
    refine lv_sipush (v := 150) hx hb dX7_type_22 (by decide) ?_
    refine lv_icmp_lt (tgt := 33) hx hb dX7_type_25 (by decide) (fun c2 => ?_) (fun c2 => ?_)
    · replace hf := it_t c2 hf
      refine lv_aload_n hx hb dX7_type_33 rfl (lv_at hl 0 rfl) ?_
      refine va_get (D := (dC, dI)) (ci := 7) (v := .ref (g 42)) (C := RX7) (T := TX7) (N := 11) hx hb hts in_X7_type_X7 hown hK hP 0 rfl rfl 4 (by decide) (hts (.fieldLink RX7 36 "BackLoans" "text" "LBackLoans$Text;") (by decide +kernel)) (fun _ h9 => h9) rfl dX7_type_34 ?_
      refine lv_iload_n hx hb dX7_type_37 rfl (lv_at hl 1 rfl) ?_
      refine lv_i2b hx hb dX7_type_38 rfl ?_
      obtain ⟨r39, hr39, hf⟩ := bn_e hf
      have hPc := hP.sub (ws' := (wX cs (fun i => g (42 + i)) X)) [1, 2] rfl
      have hDc := hD.sub (ws' := (wX cs (fun i => g (42 + i)) X)) [1, 2] (by decide) rfl
      have hFc := va_free (wc := (wX cs (fun i => g (42 + i)) X)) hD hS hA [1, 2] rfl
      refine va_callv (va_runV (As := [.int ((x1).toInt8.toInt32)]) (rest := []) C (c_X4_add l dC dI cs (fun i => g (42 + i)) s.heap.size X ((x1).toInt8.toInt32) r39 hr39) (cwV 1 hts gX7_type_X4_add rfl rfl rfl (by decide +kernel) ⟨Nat.le_of_ble_eq_true rfl, Nat.le_of_ble_eq_true rfl⟩) ⟨(fun a U g mk q => ⟨q.1, q.2.1, q.2.2.1, GE.calling q.2.2.2.1, q.2.2.2.2⟩), va_recv hK hPc (ci := 4) (q0 := 0) rfl rfl, (fun U hU hW => ⟨rfl, by rw [hU], by rw [hU]; exact hPc, GE.warm hW G, hDc.weaken (fun _ _ _ _ => trivial)⟩)⟩ rfl rfl hl.1 rfl (lv_room (Nat.le_of_ble_eq_true rfl)) dX7_type_39 ⟨Nat.le_of_ble_eq_true rfl, Nat.le_of_ble_eq_true rfl⟩) hS (fun q _ h => hFc q h) hFc (fun u t H1 locs ht hvm hw hB hz1 hk1 hS => ?_)
      obtain rfl := hw.symm
      obtain ⟨hP1, hD1⟩ := hB
      rw [ht] at hP1
      obtain ⟨hP, hD⟩ := va_join (wr := [0].filterMap (fun i => ((wB g B ++ wX cs (fun i => g (42 + i)) X))[i]?)) (w1 := (wX cs (fun i => g (42 + i)) r39)) hP hD [1, 2] [0] rfl rfl (by decide) (by decide) hk1 hFc hP1 hD1
      generalize H1 = H at hP hS ⊢
      have hP := hP.sub (ws' := (wB g B ++ wX cs (fun i => g (42 + i)) r39)) [0, 1, 2] rfl
      have hD := hD.sub (ws' := (wB g B ++ wX cs (fun i => g (42 + i)) r39)) [0, 1, 2] (by decide) rfl
      refine lv_aload_n hx hb dX7_type_42 rfl (lv_at hl 0 rfl) ?_
      refine va_get (D := (dC, dI)) (ci := 7) (v := .ref (g 42)) (C := RX7) (T := TX7) (N := 11) hx hb hts in_X7_type_X7 hown hK hP 0 rfl rfl 4 (by decide) (hts (.fieldLink RX7 36 "BackLoans" "text" "LBackLoans$Text;") (by decide +kernel)) (fun _ h9 => h9) rfl dX7_type_43 ?_
      refine va_get (D := (dC, dI)) (ci := 4) (v := .int ((r39.1 0))) (C := RX4) (T := TX4) (N := 6) hx hb hts in_X7_type_X4 hown hK hP 1 rfl rfl 0 (by decide) (hts (.fieldLink RX7 104 "BackLoans$Text" "length" "I") (by decide +kernel)) (fun _ h9 => h9) rfl dX7_type_46 ?_
      exact hR _ _ _ _ _ _ dX7_type_49 hf hP hD hS
    · replace hf := it_f c2 hf
      refine lv_aload_n hx hb dX7_type_28 rfl (lv_at hl 0 rfl) ?_
      obtain ⟨r29, hr29, hf⟩ := bn_e hf
      have hPc := hP.sub (ws' := (wB g B)) [0] rfl
      have hDc := hD.sub (ws' := (wB g B)) [0] (by decide) rfl
      have hFc := va_free (wc := (wB g B)) hD hS hA [0] rfl
      refine va_calli (va_runV (As := []) (rest := []) C (c_X7_full l dC dI cs g s.heap.size B r29 hr29) (cwV 0 hts gX7_type_X7_full rfl rfl rfl (by decide +kernel) ⟨Nat.le_of_ble_eq_true rfl, Nat.le_of_ble_eq_true rfl⟩) ⟨(fun a U g mk q => ⟨q.1, q.2.1, q.2.2.1, GE.calling q.2.2.2.1, q.2.2.2.2⟩), va_recv hK hPc (ci := 7) (q0 := 0) rfl rfl, (fun U hU hW => ⟨rfl, by rw [hU], by rw [hU]; exact hPc, GE.warm hW G, hDc.weaken (fun _ _ _ _ => trivial)⟩)⟩ rfl rfl hl.1 rfl (lv_room (Nat.le_of_ble_eq_true rfl)) dX7_type_29 ⟨Nat.le_of_ble_eq_true rfl, Nat.le_of_ble_eq_true rfl⟩) hS (fun q _ h => hFc q h) hFc (fun q u t H1 locs ht hvm hw hB hz1 hk1 hS => ?_)
      obtain ⟨rfl, rfl⟩ := hw
      obtain ⟨hP1, hD1⟩ := hB
      rw [ht] at hP1
      obtain ⟨hP, hD⟩ := va_join (wr := [1, 2].filterMap (fun i => ((wB g B ++ wX cs (fun i => g (42 + i)) X))[i]?)) (w1 := (wB g r29.2)) hP hD [0] [1, 2] rfl rfl (by decide) (by decide) hk1 hFc hP1 hD1
      generalize H1 = H at hP hS ⊢
      have hP := hP.sub (ws' := (wB g r29.2 ++ wX cs (fun i => g (42 + i)) X)) [2, 0, 1] rfl
      have hD := hD.sub (ws' := (wB g r29.2 ++ wX cs (fun i => g (42 + i)) X)) [2, 0, 1] (by decide) rfl
      exact hR _ _ _ _ _ _ dX7_type_32 hf hP hD hS
  · replace hf := it_t c1 hf
    refine lv_aload_n hx hb dX7_type_10 rfl (lv_at hl 0 rfl) ?_
    obtain ⟨r11, hr11, hf⟩ := bn_e hf
    have hPc := hP.sub (ws' := (wB g B)) [0] rfl
    have hDc := hD.sub (ws' := (wB g B)) [0] (by decide) rfl
    have hFc := va_free (wc := (wB g B)) hD hS hA [0] rfl
    refine va_calli (va_runV (As := []) (rest := []) C (c_X7_bad l dC dI cs g s.heap.size B r11 hr11) (cwV 0 hts gX7_type_X7_bad rfl rfl rfl (by decide +kernel) ⟨Nat.le_of_ble_eq_true rfl, Nat.le_of_ble_eq_true rfl⟩) ⟨(fun a U g mk q => ⟨q.1, q.2.1, q.2.2.1, GE.calling q.2.2.2.1, q.2.2.2.2⟩), va_recv hK hPc (ci := 7) (q0 := 0) rfl rfl, (fun U hU hW => ⟨rfl, by rw [hU], by rw [hU]; exact hPc, GE.warm hW G, hDc.weaken (fun _ _ _ _ => trivial)⟩)⟩ rfl rfl hl.1 rfl (lv_room (Nat.le_of_ble_eq_true rfl)) dX7_type_11 ⟨Nat.le_of_ble_eq_true rfl, Nat.le_of_ble_eq_true rfl⟩) hS (fun q _ h => hFc q h) hFc (fun q u t H1 locs ht hvm hw hB hz1 hk1 hS => ?_)
    obtain ⟨rfl, rfl⟩ := hw
    obtain ⟨hP1, hD1⟩ := hB
    rw [ht] at hP1
    obtain ⟨hP, hD⟩ := va_join (wr := [1, 2].filterMap (fun i => ((wB g B ++ wX cs (fun i => g (42 + i)) X))[i]?)) (w1 := (wB g r11.2)) hP hD [0] [1, 2] rfl rfl (by decide) (by decide) hk1 hFc hP1 hD1
    generalize H1 = H at hP hS ⊢
    have hP := hP.sub (ws' := (wB g r11.2 ++ wX cs (fun i => g (42 + i)) X)) [2, 0, 1] rfl
    have hD := hD.sub (ws' := (wB g r11.2 ++ wX cs (fun i => g (42 + i)) X)) [2, 0, 1] (by decide) rfl
    exact hR _ _ _ _ _ _ dX7_type_14 hf hP hD hS

theorem in_X7_clear_X4 : ∀ w ∈ wsX40, w ∈ wsX7_clear := by decide +kernel
theorem in_X7_clear_X7 : ∀ w ∈ wsX70, w ∈ wsX7_clear := by decide +kernel
def f_X7_clear  (B : Nat → Int32) (X : Tx) : Option (Int32 × Tx) :=
  lett ((upd X.1 0 ((0 : Int32)), X.2)) fun X_13 =>
  some ((X.1 0), X_13)
set_option maxHeartbeats 4000000 in
set_option maxRecDepth 100000 in
theorem c_X7_clear (l : Launch) (dC : Nat → ClassId) (dI : Nat → Nat → Nat) (cs : Nat → ClassId) (g : Nat → Nat) (sz : Nat) (B : Nat → Int32) (X : Tx)  (res : Int32 × Tx) (hf : f_X7_clear B X = some res) : Met l yX7_clear wsX7_clear ({ frames := 0, cells := 0, slots := 0, locals := 0 }) (va_Pc [.ref (g 0)] (fun U => U.heap.size = sz ∧ va_P (dC, dI) vwCl (wB g B ++ wX cs (fun i => g (42 + i)) X) U.heap ∧ GE dC dI cs U ∧ va_D (fun _ => True) (wB g B ++ wX cs (fun i => g (42 + i)) X))) (va_Qi (fun r (u : Tx) => r = res.1 ∧ u = res.2) (fun u t => va_P (dC, dI) vwCl ((fun u : Tx => (wB g B ++ wX cs (fun i => g (42 + i)) u)) u) t.heap ∧ va_D (va_A (wB g B ++ wX cs (fun i => g (42 + i)) X) sz) ((fun u : Tx => (wB g B ++ wX cs (fun i => g (42 + i)) u)) u)) (va_A (wB g B ++ wX cs (fun i => g (42 + i)) X) sz)) 0 0 (va_A (wB g B ++ wX cs (fun i => g (42 + i)) X) sz) := by
  refine Met.ofW (cc := cX7_clear) (maxL := 2) (ret := (some .int)) (by decide) rfl ?_
  intro p e s m args below meth c s₁ Bd hml hv
  obtain ⟨rfl, hsz, hP, G, hD0⟩ := hv
  have hts := atoms_spec (ws := wsX7_clear) Bd.pre
  have hown : s.vm.findClass RX7 = some m.cls := findClass_of_methodNamed Bd.named
  have hlocks := Bd.notSynchronized
  have hx := Bd.exec
  have hb := Bd.bytes
  have hr := Bd.returns
  have C : CallFix p m c cX7_clear 2 s _ wsX7_clear RX7 := ⟨hx, hb, hml, hown, hts⟩
  obtain ⟨hK, hN⟩ := id G
  subst hsz
  have hD := hD0.self (sz := s.heap.size)
  generalize hAe : va_A (wB g B ++ wX cs (fun i => g (42 + i)) X) s.heap.size = A at hD ⊢
  have hA : ∀ q : Nat, s.heap.size ≤ q → A q := fun q h => by rw [← hAe]; exact Or.inr h
  have hS : va_S A s.heap s.heap [] := va_S.rf
  have hR : RTi p l e ({ frames := 0, cells := 0, slots := 0, locals := 0 }) s m ([.ref (g 0)] : List Value).toArray below meth c cX7_clear (MQ below (va_Qi (fun r (u : Tx) => r = res.1 ∧ u = res.2) (fun u t => va_P (dC, dI) vwCl ((fun u : Tx => (wB g B ++ wX cs (fun i => g (42 + i)) u)) u) t.heap ∧ va_D A ((fun u : Tx => (wB g B ++ wX cs (fun i => g (42 + i)) u)) u)) A) ([.ref (g 0)] : List Value).toArray s 0 0 A) (dC, dI) A (fun u : Tx => (wB g B ++ wX cs (fun i => g (42 + i)) u)) res := fun H locs pc ls r u dd h hP hD hS => W.iret hx hb hr (fun t ht hW => ⟨⟨r, u, rfl, by cases h; exact ⟨rfl, rfl⟩, by rw [ht]; exact hP, hD⟩, hS.F ht⟩) hS.2.2 dd
  have hl := lv_entry ([.ref (g 0)]) (n := 2) (Nat.le_of_ble_eq_true rfl)
  rw [lg_entry_eq]
  generalize (lg_sl ([.ref (g 0)]) ++ List.replicate (2 - (lg_sl ([.ref (g 0)])).length) Slot.unset).toArray = ls at hl ⊢
  have hl : lv_has ls 2 [(0, .ref (g 0))] := hl
  unfold f_X7_clear at hf
  refine lv_aload_n hx hb dX7_clear_0 rfl (lv_at hl 0 rfl) ?_
  refine va_get (D := (dC, dI)) (ci := 7) (v := .ref (g 42)) (C := RX7) (T := TX7) (N := 11) hx hb hts in_X7_clear_X7 hown hK hP 0 rfl rfl 4 (by decide) (hts (.fieldLink RX7 36 "BackLoans" "text" "LBackLoans$Text;") (by decide +kernel)) (fun _ h9 => h9) rfl dX7_clear_1 ?_
  refine va_get (D := (dC, dI)) (ci := 4) (v := .int ((X.1 0))) (C := RX4) (T := TX4) (N := 6) hx hb hts in_X7_clear_X4 hown hK hP 1 rfl rfl 0 (by decide) (hts (.fieldLink RX7 104 "BackLoans$Text" "length" "I") (by decide +kernel)) (fun _ h9 => h9) rfl dX7_clear_4 ?_
  refine lv_istore_n (lv' := [(1, .int ((X.1 0))), (0, .ref (g 0))]) hx hb dX7_clear_7 rfl hl (by decide) rfl (fun ls hl => ?_)
  refine lv_aload_n hx hb dX7_clear_8 rfl (lv_at hl 1 rfl) ?_
  refine va_get (D := (dC, dI)) (ci := 7) (v := .ref (g 42)) (C := RX7) (T := TX7) (N := 11) hx hb hts in_X7_clear_X7 hown hK hP 0 rfl rfl 4 (by decide) (hts (.fieldLink RX7 36 "BackLoans" "text" "LBackLoans$Text;") (by decide +kernel)) (fun _ h9 => h9) rfl dX7_clear_9 ?_
  refine lv_iconst (v := 0) hx hb dX7_clear_12 (by decide) ?_
  refine va_put (D := (dC, dI)) (ci := 4) (v := .int ((0 : Int32))) (ty := .int) (C := RX4) (T := TX4) (N := 6) hx hb hts in_X7_clear_X4 tyX4 tyX4_ok nmX4 hown hK hP hD hS 1 rfl rfl 0 (by decide) (hts (.fieldLink RX7 104 "BackLoans$Text" "length" "I") (by decide +kernel)) (fun _ h9 => h9) rfl (by decide +kernel) rfl rfl (Nat.le_of_ble_eq_true rfl) dX7_clear_13 (fun H locs hP hD hS => ?_)
  obtain ⟨X_13, hP, hD, hf⟩ := st_nm (ws := fun X_13 : Tx => (wB g B ++ wX cs (fun i => g (42 + i)) X_13)) ((upd X.1 0 ((0 : Int32)), X.2)) hP hD hf
  refine lv_iload_n hx hb dX7_clear_16 rfl (lv_at hl 0 rfl) ?_
  exact hR _ _ _ _ _ _ dX7_clear_17 hf hP hD hS

theorem in_X7_pass_X7 : ∀ w ∈ wsX70, w ∈ wsX7_pass := by decide +kernel
def f_X7_pass_26 (x1 : Int32) (x2 : Int32) (x3 : Int32) (B : Nat → Int32) (N : Tw) (P : Ps) (K26 : Int32 → Tw → Ps → Option (Int32 × (Nat → Int32) × Tw × Ps)) (K56 : Tw → Ps → Option (Int32 × (Nat → Int32) × Tw × Ps)) : Option (Int32 × (Nat → Int32) × Tw × Ps) :=
  if x1 ≤ x3 then (
    K56 N P
  ) else (
    bn (f_X3_keep P N) fun r39 =>
    bn (f_X5_liveMonth (0 : Int32) N) fun r47 =>
    lett (x3 + 1) fun x3_50 =>
    K26 x3_50 r47 r39
  )
set_option maxHeartbeats 4000000 in
set_option maxRecDepth 100000 in
theorem b_X7_pass_26 {p : Program} {l : Launch} {e : Env} {s : State} {m : MethodId} {args : Array Value} {below : List Frame} {meth : Method} {c : Code} {Q : State → Prop} {dC : Nat → ClassId} {dI : Nat → Nat → Nat} {cs : Nat → ClassId} {A : Nat → Prop} {g : Nat → Nat} {res : Int32 × (Nat → Int32) × Tw × Ps} (C : CallFix p m c cX7_pass 4 s args wsX7_pass RX7) (G : GE dC dI cs s) (hA : ∀ q : Nat, s.heap.size ≤ q → A q) (hR : RTi p l e ({ frames := 4, cells := 0, slots := 0, locals := 88 }) s m args below meth c cX7_pass Q (dC, dI) A (fun u : (Nat → Int32) × Tw × Ps => (wB g u.1 ++ wT cs (fun i => g (1 + i)) u.2.1 ++ wP cs (fun i => g (12 + i)) u.2.2)) res) (x1 : Int32) (x2 : Int32) (x3 : Int32) (B : Nat → Int32) (N : Tw) (P : Ps) {K26 : Int32 → Tw → Ps → Option (Int32 × (Nat → Int32) × Tw × Ps)} {K56 : Tw → Ps → Option (Int32 × (Nat → Int32) × Tw × Ps)} (hK26 : ∀ (x3 : Int32) (N : Tw) (P : Ps) (H : Heap) (locs : List Loc) (ls : Array Slot), lv_has ls 4 [(0, .ref (g 0)), (1, .int (x1)), (2, .int (x2)), (3, .int (x3))] → va_P (dC, dI) vwCl (wB g B ++ wT cs (fun i => g (1 + i)) N ++ wP cs (fun i => g (12 + i)) P) H → va_D A (wB g B ++ wT cs (fun i => g (1 + i)) N ++ wP cs (fun i => g (12 + i)) P) → va_S A s.heap H locs → K26 x3 N P = some res → W p l e ({ frames := 4, cells := 0, slots := 0, locals := 88 }) s m args below meth c H locs 0 0 Q (F0 m 26 ls [])) (hK56 : ∀ (N : Tw) (P : Ps) (H : Heap) (locs : List Loc) (ls : Array Slot), lv_has ls 4 [(0, .ref (g 0)), (2, .int (x2))] → va_P (dC, dI) vwCl (wB g B ++ wT cs (fun i => g (1 + i)) N ++ wP cs (fun i => g (12 + i)) P) H → va_D A (wB g B ++ wT cs (fun i => g (1 + i)) N ++ wP cs (fun i => g (12 + i)) P) → va_S A s.heap H locs → K56 N P = some res → W p l e ({ frames := 4, cells := 0, slots := 0, locals := 88 }) s m args below meth c H locs 0 0 Q (F0 m 56 ls [])) (H : Heap) (locs : List Loc) (ls : Array Slot) (hl : lv_has ls 4 [(0, .ref (g 0)), (1, .int (x1)), (2, .int (x2)), (3, .int (x3))]) (hP : va_P (dC, dI) vwCl (wB g B ++ wT cs (fun i => g (1 + i)) N ++ wP cs (fun i => g (12 + i)) P) H) (hD : va_D A (wB g B ++ wT cs (fun i => g (1 + i)) N ++ wP cs (fun i => g (12 + i)) P)) (hS : va_S A s.heap H locs) (hf : f_X7_pass_26 x1 x2 x3 B N P K26 K56 = some res) : W p l e ({ frames := 4, cells := 0, slots := 0, locals := 88 }) s m args below meth c H locs 0 0 Q (F0 m 26 ls []) := by
  obtain ⟨hx, hb, hml, hown, hts⟩ := id C
  obtain ⟨hK, hN⟩ := id G
  unfold f_X7_pass_26 at hf
  refine lv_iload_n hx hb dX7_pass_26 rfl (lv_at hl 3 rfl) ?_
  refine lv_iload_n hx hb dX7_pass_27 rfl (lv_at hl 1 rfl) ?_
  refine lv_icmp_ge (tgt := 56) hx hb dX7_pass_28 (by decide) (fun c1 => ?_) (fun c1 => ?_)
  · replace hf := it_t c1 hf
    exact hK56 N P _ _ _ (lv_sub hl [0, 2] rfl) hP hD hS hf
  · replace hf := it_f c1 hf
    refine lv_aload_n hx hb dX7_pass_31 rfl (lv_at hl 0 rfl) ?_
    refine va_get (D := (dC, dI)) (ci := 7) (v := .ref (g 12)) (C := RX7) (T := TX7) (N := 11) hx hb hts in_X7_pass_X7 hown hK hP 0 rfl rfl 1 (by decide) (hts (.fieldLink RX7 19 "BackLoans" "past" "LBackLoans$Past;") (by decide +kernel)) (fun _ h9 => h9) rfl dX7_pass_32 ?_
    refine lv_aload_n hx hb dX7_pass_35 rfl (lv_at hl 0 rfl) ?_
    refine va_get (D := (dC, dI)) (ci := 7) (v := .ref (g 1)) (C := RX7) (T := TX7) (N := 11) hx hb hts in_X7_pass_X7 hown hK hP 0 rfl rfl 0 (by decide) (hts (.fieldLink RX7 10 "BackLoans" "now" "LBackLoans$Town;") (by decide +kernel)) (fun _ h9 => h9) rfl dX7_pass_36 ?_
    obtain ⟨r39, hr39, hf⟩ := bn_e hf
    have hPc := hP.sub (ws' := (wP cs (fun i => g (12 + i)) P ++ wT cs (fun i => g (1 + i)) N)) [12, 13, 1, 2, 3, 4, 5, 6, 7, 8, 9, 10, 11] rfl
    have hDc := hD.sub (ws' := (wP cs (fun i => g (12 + i)) P ++ wT cs (fun i => g (1 + i)) N)) [12, 13, 1, 2, 3, 4, 5, 6, 7, 8, 9, 10, 11] (by decide) rfl
    have hFc := va_free (wc := (wP cs (fun i => g (12 + i)) P ++ wT cs (fun i => g (1 + i)) N)) hD hS hA [12, 13, 1, 2, 3, 4, 5, 6, 7, 8, 9, 10, 11] rfl
    refine va_callv (va_runV (As := [.ref (g 1)]) (rest := []) C (c_X3_keep l dC dI cs (fun i => g (12 + i)) (fun i => g (1 + i)) H.size P N r39 hr39) (cwV 1 hts gX7_pass_X3_keep rfl rfl rfl (by decide +kernel) ⟨Nat.le_of_ble_eq_true rfl, Nat.le_of_ble_eq_true rfl⟩) ⟨(fun a U g mk q => ⟨q.1, q.2.1, q.2.2.1, GE.calling q.2.2.2.1, q.2.2.2.2⟩), va_recv hK hPc (ci := 3) (q0 := 0) rfl rfl, (fun U hU hW => ⟨rfl, by rw [hU], by rw [hU]; exact hPc, GE.warm hW G, hDc.weaken (fun _ _ _ _ => trivial)⟩)⟩ rfl rfl hl.1 rfl (lv_room (Nat.le_of_ble_eq_true rfl)) dX7_pass_39 ⟨Nat.le_of_ble_eq_true rfl, Nat.le_of_ble_eq_true rfl⟩) hS (fun q _ h => hFc q h) hFc (fun u t H1 locs ht hvm hw hB hz1 hk1 hS => ?_)
    obtain rfl := hw.symm
    obtain ⟨hP1, hD1⟩ := hB
    rw [ht] at hP1
    obtain ⟨hP, hD⟩ := va_join (wr := [0].filterMap (fun i => ((wB g B ++ wT cs (fun i => g (1 + i)) N ++ wP cs (fun i => g (12 + i)) P))[i]?)) (w1 := (wP cs (fun i => g (12 + i)) r39 ++ wT cs (fun i => g (1 + i)) N)) hP hD [12, 13, 1, 2, 3, 4, 5, 6, 7, 8, 9, 10, 11] [0] rfl rfl (by decide) (by decide) hk1 hFc hP1 hD1
    generalize H1 = H at hP hS ⊢
    have hP := hP.sub (ws' := (wB g B ++ wT cs (fun i => g (1 + i)) N ++ wP cs (fun i => g (12 + i)) r39)) [0, 3, 4, 5, 6, 7, 8, 9, 10, 11, 12, 13, 1, 2] rfl
    have hD := hD.sub (ws' := (wB g B ++ wT cs (fun i => g (1 + i)) N ++ wP cs (fun i => g (12 + i)) r39)) [0, 3, 4, 5, 6, 7, 8, 9, 10, 11, 12, 13, 1, 2] (by decide) rfl
    refine lv_aload_n hx hb dX7_pass_42 rfl (lv_at hl 0 rfl) ?_
    refine va_get (D := (dC, dI)) (ci := 7) (v := .ref (g 1)) (C := RX7) (T := TX7) (N := 11) hx hb hts in_X7_pass_X7 hown hK hP 0 rfl rfl 0 (by decide) (hts (.fieldLink RX7 10 "BackLoans" "now" "LBackLoans$Town;") (by decide +kernel)) (fun _ h9 => h9) rfl dX7_pass_43 ?_
    refine lv_iconst (v := 0) hx hb dX7_pass_46 (by decide) ?_
    obtain ⟨r47, hr47, hf⟩ := bn_e hf
    have hPc := hP.sub (ws' := (wT cs (fun i => g (1 + i)) N)) [1, 2, 3, 4, 5, 6, 7, 8, 9, 10, 11] rfl
    have hDc := hD.sub (ws' := (wT cs (fun i => g (1 + i)) N)) [1, 2, 3, 4, 5, 6, 7, 8, 9, 10, 11] (by decide) rfl
    have hFc := va_free (wc := (wT cs (fun i => g (1 + i)) N)) hD hS hA [1, 2, 3, 4, 5, 6, 7, 8, 9, 10, 11] rfl
    refine va_callv (va_runV (As := [.int ((0 : Int32))]) (rest := []) C (c_X5_liveMonth l dC dI cs (fun i => g (1 + i)) H.size N (0 : Int32) r47 hr47) (cwV 1 hts gX7_pass_X5_liveMonth rfl rfl rfl (by decide +kernel) ⟨Nat.le_of_ble_eq_true rfl, Nat.le_of_ble_eq_true rfl⟩) ⟨(fun a U g mk q => ⟨q.1, q.2.1, q.2.2.1, GE.calling q.2.2.2.1, q.2.2.2.2⟩), va_recv hK hPc (ci := 5) (q0 := 0) rfl rfl, (fun U hU hW => ⟨rfl, by rw [hU], by rw [hU]; exact hPc, GE.warm hW G, hDc.weaken (fun _ _ _ _ => trivial)⟩)⟩ rfl rfl hl.1 rfl (lv_room (Nat.le_of_ble_eq_true rfl)) dX7_pass_47 ⟨Nat.le_of_ble_eq_true rfl, Nat.le_of_ble_eq_true rfl⟩) hS (fun q _ h => hFc q h) hFc (fun u t H1 locs ht hvm hw hB hz1 hk1 hS => ?_)
    obtain rfl := hw.symm
    obtain ⟨hP1, hD1⟩ := hB
    rw [ht] at hP1
    obtain ⟨hP, hD⟩ := va_join (wr := [0, 12, 13].filterMap (fun i => ((wB g B ++ wT cs (fun i => g (1 + i)) N ++ wP cs (fun i => g (12 + i)) r39))[i]?)) (w1 := (wT cs (fun i => g (1 + i)) r47)) hP hD [1, 2, 3, 4, 5, 6, 7, 8, 9, 10, 11] [0, 12, 13] rfl rfl (by decide) (by decide) hk1 hFc hP1 hD1
    generalize H1 = H at hP hS ⊢
    have hP := hP.sub (ws' := (wB g B ++ wT cs (fun i => g (1 + i)) r47 ++ wP cs (fun i => g (12 + i)) r39)) [0, 3, 4, 5, 6, 7, 8, 9, 10, 11, 12, 13, 1, 2] rfl
    have hD := hD.sub (ws' := (wB g B ++ wT cs (fun i => g (1 + i)) r47 ++ wP cs (fun i => g (12 + i)) r39)) [0, 3, 4, 5, 6, 7, 8, 9, 10, 11, 12, 13, 1, 2] (by decide) rfl
    obtain ⟨x3_50, ex3_50⟩ : ∃ y : Int32, y = (x3 + 1) := ⟨_, rfl⟩
    replace hf := lett_s ex3_50 hf
    refine lv_iinc (v := x3_50) (lv' := [(3, .int (x3_50)), (0, .ref (g 0)), (1, .int (x1)), (2, .int (x2))]) hx hb dX7_pass_50 hl (k := 3) rfl (by rw [ex3_50]; rfl) (by decide) rfl (fun ls hl => ?_)
    refine lv_goto (tgt := 26) hx hb dX7_pass_53 (by decide) ?_
    exact hK26 x3_50 r47 r39 _ _ _ (lv_sub hl [1, 2, 3, 0] rfl) hP hD hS hf
def l_X7_pass_26 (x1 : Int32) (x2 : Int32) (B : Nat → Int32) (K56 : Tw → Ps → Option (Int32 × (Nat → Int32) × Tw × Ps)) (n : Nat) (x3 : Int32) (N : Tw) (P : Ps) : Option (Int32 × (Nat → Int32) × Tw × Ps) := itr (fun (k : Int32 × Tw × Ps → Option (Int32 × (Nat → Int32) × Tw × Ps)) (z : Int32 × Tw × Ps) => f_X7_pass_26 x1 x2 z.1 B z.2.1 z.2.2 (fun x3 N P => k (x3, N, P)) K56) n (x3, N, P)
set_option maxHeartbeats 4000000 in
set_option maxRecDepth 100000 in
theorem w_X7_pass_26 {p : Program} {l : Launch} {e : Env} {s : State} {m : MethodId} {args : Array Value} {below : List Frame} {meth : Method} {c : Code} {Q : State → Prop} {dC : Nat → ClassId} {dI : Nat → Nat → Nat} {cs : Nat → ClassId} {A : Nat → Prop} {g : Nat → Nat} {res : Int32 × (Nat → Int32) × Tw × Ps} (C : CallFix p m c cX7_pass 4 s args wsX7_pass RX7) (G : GE dC dI cs s) (hA : ∀ q : Nat, s.heap.size ≤ q → A q) (hR : RTi p l e ({ frames := 4, cells := 0, slots := 0, locals := 88 }) s m args below meth c cX7_pass Q (dC, dI) A (fun u : (Nat → Int32) × Tw × Ps => (wB g u.1 ++ wT cs (fun i => g (1 + i)) u.2.1 ++ wP cs (fun i => g (12 + i)) u.2.2)) res) (x1 : Int32) (x2 : Int32) (B : Nat → Int32) {K56 : Tw → Ps → Option (Int32 × (Nat → Int32) × Tw × Ps)} (hK56 : ∀ (N : Tw) (P : Ps) (H : Heap) (locs : List Loc) (ls : Array Slot), lv_has ls 4 [(0, .ref (g 0)), (2, .int (x2))] → va_P (dC, dI) vwCl (wB g B ++ wT cs (fun i => g (1 + i)) N ++ wP cs (fun i => g (12 + i)) P) H → va_D A (wB g B ++ wT cs (fun i => g (1 + i)) N ++ wP cs (fun i => g (12 + i)) P) → va_S A s.heap H locs → K56 N P = some res → W p l e ({ frames := 4, cells := 0, slots := 0, locals := 88 }) s m args below meth c H locs 0 0 Q (F0 m 56 ls [])) : ∀ (n : Nat) (x3 : Int32) (N : Tw) (P : Ps) (H : Heap) (locs : List Loc) (ls : Array Slot), lv_has ls 4 [(0, .ref (g 0)), (1, .int (x1)), (2, .int (x2)), (3, .int (x3))] → va_P (dC, dI) vwCl (wB g B ++ wT cs (fun i => g (1 + i)) N ++ wP cs (fun i => g (12 + i)) P) H → va_D A (wB g B ++ wT cs (fun i => g (1 + i)) N ++ wP cs (fun i => g (12 + i)) P) → va_S A s.heap H locs → l_X7_pass_26 x1 x2 B K56 n x3 N P = some res → W p l e ({ frames := 4, cells := 0, slots := 0, locals := 88 }) s m args below meth c H locs 0 0 Q (F0 m 26 ls []) := by
  intro n
  induction n with
  | zero => intro x3 N P H locs ls hl hP hD hS hf; exact absurd hf (by simp [l_X7_pass_26, itr])
  | succ n ih => intro x3 N P H locs ls hl hP hD hS hf; exact b_X7_pass_26 C G hA hR x1 x2 x3 B N P (K26 := fun x3 N P => l_X7_pass_26 x1 x2 B K56 n x3 N P) (fun x3 N P H locs ls hl hP hD hS hf => ih x3 N P H locs ls hl hP hD hS hf) hK56 H locs ls hl hP hD hS hf
def f_X7_pass_56 (x2 : Int32) (B : Nat → Int32) (N : Tw) (P : Ps)  : Option (Int32 × (Nat → Int32) × Tw × Ps) :=
  bn (f_X5_howManyAre (1 : Int32) N) fun r61 =>
  some ((r61 - x2), (B, N, P))
set_option maxHeartbeats 4000000 in
set_option maxRecDepth 100000 in
theorem b_X7_pass_56 {p : Program} {l : Launch} {e : Env} {s : State} {m : MethodId} {args : Array Value} {below : List Frame} {meth : Method} {c : Code} {Q : State → Prop} {dC : Nat → ClassId} {dI : Nat → Nat → Nat} {cs : Nat → ClassId} {A : Nat → Prop} {g : Nat → Nat} {res : Int32 × (Nat → Int32) × Tw × Ps} (C : CallFix p m c cX7_pass 4 s args wsX7_pass RX7) (G : GE dC dI cs s) (hA : ∀ q : Nat, s.heap.size ≤ q → A q) (hR : RTi p l e ({ frames := 4, cells := 0, slots := 0, locals := 88 }) s m args below meth c cX7_pass Q (dC, dI) A (fun u : (Nat → Int32) × Tw × Ps => (wB g u.1 ++ wT cs (fun i => g (1 + i)) u.2.1 ++ wP cs (fun i => g (12 + i)) u.2.2)) res) (x2 : Int32) (B : Nat → Int32) (N : Tw) (P : Ps)   (H : Heap) (locs : List Loc) (ls : Array Slot) (hl : lv_has ls 4 [(0, .ref (g 0)), (2, .int (x2))]) (hP : va_P (dC, dI) vwCl (wB g B ++ wT cs (fun i => g (1 + i)) N ++ wP cs (fun i => g (12 + i)) P) H) (hD : va_D A (wB g B ++ wT cs (fun i => g (1 + i)) N ++ wP cs (fun i => g (12 + i)) P)) (hS : va_S A s.heap H locs) (hf : f_X7_pass_56 x2 B N P = some res) : W p l e ({ frames := 4, cells := 0, slots := 0, locals := 88 }) s m args below meth c H locs 0 0 Q (F0 m 56 ls []) := by
  obtain ⟨hx, hb, hml, hown, hts⟩ := id C
  obtain ⟨hK, hN⟩ := id G
  unfold f_X7_pass_56 at hf
  refine lv_aload_n hx hb dX7_pass_56 rfl (lv_at hl 0 rfl) ?_
  refine va_get (D := (dC, dI)) (ci := 7) (v := .ref (g 1)) (C := RX7) (T := TX7) (N := 11) hx hb hts in_X7_pass_X7 hown hK hP 0 rfl rfl 0 (by decide) (hts (.fieldLink RX7 10 "BackLoans" "now" "LBackLoans$Town;") (by decide +kernel)) (fun _ h9 => h9) rfl dX7_pass_57 ?_
  refine lv_iconst (v := 1) hx hb dX7_pass_60 (by decide) ?_
  obtain ⟨r61, hr61, hf⟩ := bn_e hf
  have hPc := hP.sub (ws' := (wT cs (fun i => g (1 + i)) N)) [1, 2, 3, 4, 5, 6, 7, 8, 9, 10, 11] rfl
  refine vp_callSi (W.runV (As := [.int ((1 : Int32))]) (rest := []) C (c_X5_howManyAre l dC dI cs (fun i => g (1 + i)) N (1 : Int32) r61 hr61) (cwV 1 hts gX7_pass_X5_howManyAre rfl rfl rfl (by decide +kernel) ⟨Nat.le_of_ble_eq_true rfl, Nat.le_of_ble_eq_true rfl⟩) ⟨(fun a U g mk q => ⟨q.1, q.2.1, GE.calling q.2.2⟩), va_recv hK hPc (ci := 5) (q0 := 0) rfl rfl, (fun U hU hW => ⟨rfl, by rw [hU]; exact hPc, GE.warm hW G⟩)⟩ rfl rfl hl.1 rfl (lv_room (Nat.le_of_ble_eq_true rfl)) dX7_pass_61 ⟨Nat.le_of_ble_eq_true rfl, Nat.le_of_ble_eq_true rfl⟩) (fun qr61 hqr61 => ?_)
  obtain rfl := hqr61.symm
  refine lv_iload_n hx hb dX7_pass_64 rfl (lv_at hl 1 rfl) ?_
  refine lv_isub hx hb dX7_pass_65 ?_
  exact hR _ _ _ _ _ _ dX7_pass_66 hf hP hD hS
def f_X7_pass (x1 : Int32) (B : Nat → Int32) (N : Tw) (P : Ps) : Option (Int32 × (Nat → Int32) × Tw × Ps) :=
  bn (f_X7_within x1 (1 : Int32) (12 : Int32)) fun r4 =>
  if r4 = 0 then (
    bn (f_X7_bad B) fun r11 =>
    some (r11.1, (r11.2, N, P))
  ) else (
    bn (f_X5_howManyAre (1 : Int32) N) fun r20 =>
    lett (0 : Int32) fun x3_25 =>
    l_X7_pass_26 x1 r20 B (fun Nz Pz => f_X7_pass_56 r20 B Nz Pz) FU x3_25 N P
  )
set_option maxHeartbeats 4000000 in
set_option maxRecDepth 100000 in
theorem c_X7_pass (l : Launch) (dC : Nat → ClassId) (dI : Nat → Nat → Nat) (cs : Nat → ClassId) (g : Nat → Nat) (sz : Nat) (B : Nat → Int32) (N : Tw) (P : Ps) (x1 : Int32) (res : Int32 × (Nat → Int32) × Tw × Ps) (hf : f_X7_pass x1 B N P = some res) : Met l yX7_pass wsX7_pass ({ frames := 4, cells := 0, slots := 0, locals := 88 }) (va_Pc [.ref (g 0), .int (x1)] (fun U => U.heap.size = sz ∧ va_P (dC, dI) vwCl (wB g B ++ wT cs (fun i => g (1 + i)) N ++ wP cs (fun i => g (12 + i)) P) U.heap ∧ GE dC dI cs U ∧ va_D (fun _ => True) (wB g B ++ wT cs (fun i => g (1 + i)) N ++ wP cs (fun i => g (12 + i)) P))) (va_Qi (fun r (u : (Nat → Int32) × Tw × Ps) => r = res.1 ∧ u = res.2) (fun u t => va_P (dC, dI) vwCl ((fun u : (Nat → Int32) × Tw × Ps => (wB g u.1 ++ wT cs (fun i => g (1 + i)) u.2.1 ++ wP cs (fun i => g (12 + i)) u.2.2)) u) t.heap ∧ va_D (va_A (wB g B ++ wT cs (fun i => g (1 + i)) N ++ wP cs (fun i => g (12 + i)) P) sz) ((fun u : (Nat → Int32) × Tw × Ps => (wB g u.1 ++ wT cs (fun i => g (1 + i)) u.2.1 ++ wP cs (fun i => g (12 + i)) u.2.2)) u)) (va_A (wB g B ++ wT cs (fun i => g (1 + i)) N ++ wP cs (fun i => g (12 + i)) P) sz)) 0 0 (va_A (wB g B ++ wT cs (fun i => g (1 + i)) N ++ wP cs (fun i => g (12 + i)) P) sz) := by
  refine Met.ofW (cc := cX7_pass) (maxL := 4) (ret := (some .int)) (by decide) rfl ?_
  intro p e s m args below meth c s₁ Bd hml hv
  obtain ⟨rfl, hsz, hP, G, hD0⟩ := hv
  have hts := atoms_spec (ws := wsX7_pass) Bd.pre
  have hown : s.vm.findClass RX7 = some m.cls := findClass_of_methodNamed Bd.named
  have hlocks := Bd.notSynchronized
  have hx := Bd.exec
  have hb := Bd.bytes
  have hr := Bd.returns
  have C : CallFix p m c cX7_pass 4 s _ wsX7_pass RX7 := ⟨hx, hb, hml, hown, hts⟩
  obtain ⟨hK, hN⟩ := id G
  subst hsz
  have hD := hD0.self (sz := s.heap.size)
  generalize hAe : va_A (wB g B ++ wT cs (fun i => g (1 + i)) N ++ wP cs (fun i => g (12 + i)) P) s.heap.size = A at hD ⊢
  have hA : ∀ q : Nat, s.heap.size ≤ q → A q := fun q h => by rw [← hAe]; exact Or.inr h
  have hS : va_S A s.heap s.heap [] := va_S.rf
  have hR : RTi p l e ({ frames := 4, cells := 0, slots := 0, locals := 88 }) s m ([.ref (g 0), .int (x1)] : List Value).toArray below meth c cX7_pass (MQ below (va_Qi (fun r (u : (Nat → Int32) × Tw × Ps) => r = res.1 ∧ u = res.2) (fun u t => va_P (dC, dI) vwCl ((fun u : (Nat → Int32) × Tw × Ps => (wB g u.1 ++ wT cs (fun i => g (1 + i)) u.2.1 ++ wP cs (fun i => g (12 + i)) u.2.2)) u) t.heap ∧ va_D A ((fun u : (Nat → Int32) × Tw × Ps => (wB g u.1 ++ wT cs (fun i => g (1 + i)) u.2.1 ++ wP cs (fun i => g (12 + i)) u.2.2)) u)) A) ([.ref (g 0), .int (x1)] : List Value).toArray s 0 0 A) (dC, dI) A (fun u : (Nat → Int32) × Tw × Ps => (wB g u.1 ++ wT cs (fun i => g (1 + i)) u.2.1 ++ wP cs (fun i => g (12 + i)) u.2.2)) res := fun H locs pc ls r u dd h hP hD hS => W.iret hx hb hr (fun t ht hW => ⟨⟨r, u, rfl, by cases h; exact ⟨rfl, rfl⟩, by rw [ht]; exact hP, hD⟩, hS.F ht⟩) hS.2.2 dd
  have hl := lv_entry ([.ref (g 0), .int (x1)]) (n := 4) (Nat.le_of_ble_eq_true rfl)
  rw [lg_entry_eq]
  generalize (lg_sl ([.ref (g 0), .int (x1)]) ++ List.replicate (4 - (lg_sl ([.ref (g 0), .int (x1)])).length) Slot.unset).toArray = ls at hl ⊢
  have hl : lv_has ls 4 [(0, .ref (g 0)), (1, .int (x1))] := hl
  unfold f_X7_pass at hf
  refine lv_iload_n hx hb dX7_pass_0 rfl (lv_at hl 1 rfl) ?_
  refine lv_iconst (v := 1) hx hb dX7_pass_1 (by decide) ?_
  refine lv_bipush (v := 12) hx hb dX7_pass_2 (by decide) ?_
  obtain ⟨r4, hr4, hf⟩ := bn_e hf
  have hPc := hP.sub (ws' := ([] : va_W)) [] rfl
  refine vp_callSi (W.runS (As := [.int (x1), .int ((1 : Int32)), .int ((12 : Int32))]) (rest := []) C (c_X7_within l dC dI cs x1 (1 : Int32) (12 : Int32) r4 hr4) (va_cwS 3 hts gX7_pass_X7_within rfl rfl rfl (by decide +kernel) ⟨Nat.le_of_ble_eq_true rfl, Nat.le_of_ble_eq_true rfl⟩) ⟨(fun a U g mk q => ⟨q.1, q.2.1, GE.calling q.2.2⟩), (fun U hU hW => ⟨rfl, by rw [hU]; exact hPc, GE.warm hW G⟩)⟩ rfl rfl hl.1 rfl (lv_room (Nat.le_of_ble_eq_true rfl)) dX7_pass_4 ⟨Nat.le_of_ble_eq_true rfl, Nat.le_of_ble_eq_true rfl⟩) (fun qr4 hqr4 => ?_)
  obtain ⟨hqr4, hnr4⟩ := hqr4
  obtain rfl := hqr4.symm
  refine lv_if_ne (tgt := 15) hx hb dX7_pass_7 (by decide) (fun c1 => ?_) (fun c1 => ?_)
  · replace hf := it_f c1 hf
    refine lv_aload_n hx hb dX7_pass_15 rfl (lv_at hl 0 rfl) ?_
    refine va_get (D := (dC, dI)) (ci := 7) (v := .ref (g 1)) (C := RX7) (T := TX7) (N := 11) hx hb hts in_X7_pass_X7 hown hK hP 0 rfl rfl 0 (by decide) (hts (.fieldLink RX7 10 "BackLoans" "now" "LBackLoans$Town;") (by decide +kernel)) (fun _ h9 => h9) rfl dX7_pass_16 ?_
    refine lv_iconst (v := 1) hx hb dX7_pass_19 (by decide) ?_
    obtain ⟨r20, hr20, hf⟩ := bn_e hf
    have hPc := hP.sub (ws' := (wT cs (fun i => g (1 + i)) N)) [1, 2, 3, 4, 5, 6, 7, 8, 9, 10, 11] rfl
    refine vp_callSi (W.runV (As := [.int ((1 : Int32))]) (rest := []) C (c_X5_howManyAre l dC dI cs (fun i => g (1 + i)) N (1 : Int32) r20 hr20) (cwV 1 hts gX7_pass_X5_howManyAre rfl rfl rfl (by decide +kernel) ⟨Nat.le_of_ble_eq_true rfl, Nat.le_of_ble_eq_true rfl⟩) ⟨(fun a U g mk q => ⟨q.1, q.2.1, GE.calling q.2.2⟩), va_recv hK hPc (ci := 5) (q0 := 0) rfl rfl, (fun U hU hW => ⟨rfl, by rw [hU]; exact hPc, GE.warm hW G⟩)⟩ rfl rfl hl.1 rfl (lv_room (Nat.le_of_ble_eq_true rfl)) dX7_pass_20 ⟨Nat.le_of_ble_eq_true rfl, Nat.le_of_ble_eq_true rfl⟩) (fun qr20 hqr20 => ?_)
    obtain rfl := hqr20.symm
    refine lv_istore_n (lv' := [(2, .int (r20)), (0, .ref (g 0)), (1, .int (x1))]) hx hb dX7_pass_23 rfl hl (by decide) rfl (fun ls hl => ?_)
    refine lv_iconst (v := 0) hx hb dX7_pass_24 (by decide) ?_
    refine lv_topi (fun x3_25 ex3_25 => ?_)
    replace hf := lett_s ex3_25 hf
    refine lv_istore_n (lv' := [(3, .int (x3_25)), (2, .int (r20)), (0, .ref (g 0)), (1, .int (x1))]) hx hb dX7_pass_25 rfl hl (by decide) rfl (fun ls hl => ?_)
    exact w_X7_pass_26 C G hA hR x1 r20 B (fun Nz Pz H locs ls hl hP hD hS hf => b_X7_pass_56 C G hA hR r20 B Nz Pz _ _ _ hl hP hD hS hf) FU x3_25 N P _ _ _ (lv_sub hl [2, 3, 1, 0] rfl) hP hD hS hf
  · replace hf := it_t c1 hf
    refine lv_aload_n hx hb dX7_pass_10 rfl (lv_at hl 0 rfl) ?_
    obtain ⟨r11, hr11, hf⟩ := bn_e hf
    have hPc := hP.sub (ws' := (wB g B)) [0] rfl
    have hDc := hD.sub (ws' := (wB g B)) [0] (by decide) rfl
    have hFc := va_free (wc := (wB g B)) hD hS hA [0] rfl
    refine va_calli (va_runV (As := []) (rest := []) C (c_X7_bad l dC dI cs g s.heap.size B r11 hr11) (cwV 0 hts gX7_pass_X7_bad rfl rfl rfl (by decide +kernel) ⟨Nat.le_of_ble_eq_true rfl, Nat.le_of_ble_eq_true rfl⟩) ⟨(fun a U g mk q => ⟨q.1, q.2.1, q.2.2.1, GE.calling q.2.2.2.1, q.2.2.2.2⟩), va_recv hK hPc (ci := 7) (q0 := 0) rfl rfl, (fun U hU hW => ⟨rfl, by rw [hU], by rw [hU]; exact hPc, GE.warm hW G, hDc.weaken (fun _ _ _ _ => trivial)⟩)⟩ rfl rfl hl.1 rfl (lv_room (Nat.le_of_ble_eq_true rfl)) dX7_pass_11 ⟨Nat.le_of_ble_eq_true rfl, Nat.le_of_ble_eq_true rfl⟩) hS (fun q _ h => hFc q h) hFc (fun q u t H1 locs ht hvm hw hB hz1 hk1 hS => ?_)
    obtain ⟨rfl, rfl⟩ := hw
    obtain ⟨hP1, hD1⟩ := hB
    rw [ht] at hP1
    obtain ⟨hP, hD⟩ := va_join (wr := [1, 2, 3, 4, 5, 6, 7, 8, 9, 10, 11, 12, 13].filterMap (fun i => ((wB g B ++ wT cs (fun i => g (1 + i)) N ++ wP cs (fun i => g (12 + i)) P))[i]?)) (w1 := (wB g r11.2)) hP hD [0] [1, 2, 3, 4, 5, 6, 7, 8, 9, 10, 11, 12, 13] rfl rfl (by decide) (by decide) hk1 hFc hP1 hD1
    generalize H1 = H at hP hS ⊢
    have hP := hP.sub (ws' := (wB g r11.2 ++ wT cs (fun i => g (1 + i)) N ++ wP cs (fun i => g (12 + i)) P)) [13, 0, 1, 2, 3, 4, 5, 6, 7, 8, 9, 10, 11, 12] rfl
    have hD := hD.sub (ws' := (wB g r11.2 ++ wT cs (fun i => g (1 + i)) N ++ wP cs (fun i => g (12 + i)) P)) [13, 0, 1, 2, 3, 4, 5, 6, 7, 8, 9, 10, 11, 12] (by decide) rfl
    exact hR _ _ _ _ _ _ dX7_pass_14 hf hP hD hS

theorem in_X7_no_X7 : ∀ w ∈ wsX70, w ∈ wsX7_no := by decide +kernel
def f_X7_no  (B : Nat → Int32) : Option (Int32 × (Nat → Int32)) :=
  lett (upd B 1 (((B 1) + (1 : Int32)))) fun B_7 =>
  some ((-3 : Int32), B_7)
set_option maxHeartbeats 4000000 in
set_option maxRecDepth 100000 in
theorem c_X7_no (l : Launch) (dC : Nat → ClassId) (dI : Nat → Nat → Nat) (cs : Nat → ClassId) (g : Nat → Nat) (sz : Nat) (B : Nat → Int32)  (res : Int32 × (Nat → Int32)) (hf : f_X7_no B = some res) : Met l yX7_no wsX7_no ({ frames := 0, cells := 0, slots := 0, locals := 0 }) (va_Pc [.ref (g 0)] (fun U => U.heap.size = sz ∧ va_P (dC, dI) vwCl (wB g B) U.heap ∧ GE dC dI cs U ∧ va_D (fun _ => True) (wB g B))) (va_Qi (fun r (u : (Nat → Int32)) => r = res.1 ∧ u = res.2) (fun u t => va_P (dC, dI) vwCl ((fun u : (Nat → Int32) => (wB g u)) u) t.heap ∧ va_D (va_A (wB g B) sz) ((fun u : (Nat → Int32) => (wB g u)) u)) (va_A (wB g B) sz)) 0 0 (va_A (wB g B) sz) := by
  refine Met.ofW (cc := cX7_no) (maxL := 1) (ret := (some .int)) (by decide) rfl ?_
  intro p e s m args below meth c s₁ Bd hml hv
  obtain ⟨rfl, hsz, hP, G, hD0⟩ := hv
  have hts := atoms_spec (ws := wsX7_no) Bd.pre
  have hown : s.vm.findClass RX7 = some m.cls := findClass_of_methodNamed Bd.named
  have hlocks := Bd.notSynchronized
  have hx := Bd.exec
  have hb := Bd.bytes
  have hr := Bd.returns
  have C : CallFix p m c cX7_no 1 s _ wsX7_no RX7 := ⟨hx, hb, hml, hown, hts⟩
  obtain ⟨hK, hN⟩ := id G
  subst hsz
  have hD := hD0.self (sz := s.heap.size)
  generalize hAe : va_A (wB g B) s.heap.size = A at hD ⊢
  have hA : ∀ q : Nat, s.heap.size ≤ q → A q := fun q h => by rw [← hAe]; exact Or.inr h
  have hS : va_S A s.heap s.heap [] := va_S.rf
  have hR : RTi p l e ({ frames := 0, cells := 0, slots := 0, locals := 0 }) s m ([.ref (g 0)] : List Value).toArray below meth c cX7_no (MQ below (va_Qi (fun r (u : (Nat → Int32)) => r = res.1 ∧ u = res.2) (fun u t => va_P (dC, dI) vwCl ((fun u : (Nat → Int32) => (wB g u)) u) t.heap ∧ va_D A ((fun u : (Nat → Int32) => (wB g u)) u)) A) ([.ref (g 0)] : List Value).toArray s 0 0 A) (dC, dI) A (fun u : (Nat → Int32) => (wB g u)) res := fun H locs pc ls r u dd h hP hD hS => W.iret hx hb hr (fun t ht hW => ⟨⟨r, u, rfl, by cases h; exact ⟨rfl, rfl⟩, by rw [ht]; exact hP, hD⟩, hS.F ht⟩) hS.2.2 dd
  have hl := lv_entry ([.ref (g 0)]) (n := 1) (Nat.le_of_ble_eq_true rfl)
  rw [lg_entry_eq]
  generalize (lg_sl ([.ref (g 0)]) ++ List.replicate (1 - (lg_sl ([.ref (g 0)])).length) Slot.unset).toArray = ls at hl ⊢
  have hl : lv_has ls 1 [(0, .ref (g 0))] := hl
  unfold f_X7_no at hf
  refine lv_aload_n hx hb dX7_no_0 rfl (lv_at hl 0 rfl) ?_
  refine lv_dup hx hb dX7_no_1 rfl ?_
  refine va_get (D := (dC, dI)) (ci := 7) (v := .int ((B 1))) (C := RX7) (T := TX7) (N := 11) hx hb hts in_X7_no_X7 hown hK hP 0 rfl rfl 9 (by decide) (hts (.fieldLink RX7 287 "BackLoans" "refusedNo" "I") (by decide +kernel)) (fun _ h9 => h9) rfl dX7_no_2 ?_
  refine lv_iconst (v := 1) hx hb dX7_no_5 (by decide) ?_
  refine lv_iadd hx hb dX7_no_6 ?_
  refine va_put (D := (dC, dI)) (ci := 7) (v := .int (((B 1) + (1 : Int32)))) (ty := .int) (C := RX7) (T := TX7) (N := 11) hx hb hts in_X7_no_X7 tyX7 tyX7_ok nmX7 hown hK hP hD hS 0 rfl rfl 9 (by decide) (hts (.fieldLink RX7 287 "BackLoans" "refusedNo" "I") (by decide +kernel)) (fun _ h9 => h9) rfl (by decide +kernel) rfl rfl (Nat.le_of_ble_eq_true rfl) dX7_no_7 (fun H locs hP hD hS => ?_)
  obtain ⟨B_7, hP, hD, hf⟩ := st_nm (ws := fun B_7 : Nat → Int32 => (wB g B_7)) (upd B 1 (((B 1) + (1 : Int32)))) hP hD hf
  refine lv_bipush (v := -3) hx hb dX7_no_10 (by decide) ?_
  exact hR _ _ _ _ _ _ dX7_no_12 hf hP hD hS

theorem in_X7_join_X5 : ∀ w ∈ wsX50, w ∈ wsX7_join := by decide +kernel
theorem in_X7_join_X7 : ∀ w ∈ wsX70, w ∈ wsX7_join := by decide +kernel
def f_X7_join_27 (B : Nat → Int32) (N : Tw) (P : Ps)  : Option (Int32 × (Nat → Int32) × Tw × Ps) :=
  bn (f_X7_bad B) fun r28 =>
  some (r28.1, (r28.2, N, P))
set_option maxHeartbeats 4000000 in
set_option maxRecDepth 100000 in
theorem b_X7_join_27 {p : Program} {l : Launch} {e : Env} {s : State} {m : MethodId} {args : Array Value} {below : List Frame} {meth : Method} {c : Code} {Q : State → Prop} {dC : Nat → ClassId} {dI : Nat → Nat → Nat} {cs : Nat → ClassId} {A : Nat → Prop} {g : Nat → Nat} {res : Int32 × (Nat → Int32) × Tw × Ps} (C : CallFix p m c cX7_join 3 s args wsX7_join RX7) (G : GE dC dI cs s) (hA : ∀ q : Nat, s.heap.size ≤ q → A q) (hR : RTi p l e ({ frames := 2, cells := 0, slots := 0, locals := 48 }) s m args below meth c cX7_join Q (dC, dI) A (fun u : (Nat → Int32) × Tw × Ps => (wB g u.1 ++ wT cs (fun i => g (1 + i)) u.2.1 ++ wP cs (fun i => g (12 + i)) u.2.2)) res) (B : Nat → Int32) (N : Tw) (P : Ps)   (H : Heap) (locs : List Loc) (ls : Array Slot) (hl : lv_has ls 3 [(0, .ref (g 0))]) (hP : va_P (dC, dI) vwCl (wB g B ++ wT cs (fun i => g (1 + i)) N ++ wP cs (fun i => g (12 + i)) P) H) (hD : va_D A (wB g B ++ wT cs (fun i => g (1 + i)) N ++ wP cs (fun i => g (12 + i)) P)) (hS : va_S A s.heap H locs) (hf : f_X7_join_27 B N P = some res) : W p l e ({ frames := 2, cells := 0, slots := 0, locals := 48 }) s m args below meth c H locs 0 0 Q (F0 m 27 ls []) := by
  obtain ⟨hx, hb, hml, hown, hts⟩ := id C
  obtain ⟨hK, hN⟩ := id G
  unfold f_X7_join_27 at hf
  refine lv_aload_n hx hb dX7_join_27 rfl (lv_at hl 0 rfl) ?_
  obtain ⟨r28, hr28, hf⟩ := bn_e hf
  have hPc := hP.sub (ws' := (wB g B)) [0] rfl
  have hDc := hD.sub (ws' := (wB g B)) [0] (by decide) rfl
  have hFc := va_free (wc := (wB g B)) hD hS hA [0] rfl
  refine va_calli (va_runV (As := []) (rest := []) C (c_X7_bad l dC dI cs g H.size B r28 hr28) (cwV 0 hts gX7_join_X7_bad rfl rfl rfl (by decide +kernel) ⟨Nat.le_of_ble_eq_true rfl, Nat.le_of_ble_eq_true rfl⟩) ⟨(fun a U g mk q => ⟨q.1, q.2.1, q.2.2.1, GE.calling q.2.2.2.1, q.2.2.2.2⟩), va_recv hK hPc (ci := 7) (q0 := 0) rfl rfl, (fun U hU hW => ⟨rfl, by rw [hU], by rw [hU]; exact hPc, GE.warm hW G, hDc.weaken (fun _ _ _ _ => trivial)⟩)⟩ rfl rfl hl.1 rfl (lv_room (Nat.le_of_ble_eq_true rfl)) dX7_join_28 ⟨Nat.le_of_ble_eq_true rfl, Nat.le_of_ble_eq_true rfl⟩) hS (fun q _ h => hFc q h) hFc (fun q u t H1 locs ht hvm hw hB hz1 hk1 hS => ?_)
  obtain ⟨rfl, rfl⟩ := hw
  obtain ⟨hP1, hD1⟩ := hB
  rw [ht] at hP1
  obtain ⟨hP, hD⟩ := va_join (wr := [1, 2, 3, 4, 5, 6, 7, 8, 9, 10, 11, 12, 13].filterMap (fun i => ((wB g B ++ wT cs (fun i => g (1 + i)) N ++ wP cs (fun i => g (12 + i)) P))[i]?)) (w1 := (wB g r28.2)) hP hD [0] [1, 2, 3, 4, 5, 6, 7, 8, 9, 10, 11, 12, 13] rfl rfl (by decide) (by decide) hk1 hFc hP1 hD1
  generalize H1 = H at hP hS ⊢
  have hP := hP.sub (ws' := (wB g r28.2 ++ wT cs (fun i => g (1 + i)) N ++ wP cs (fun i => g (12 + i)) P)) [13, 0, 1, 2, 3, 4, 5, 6, 7, 8, 9, 10, 11, 12] rfl
  have hD := hD.sub (ws' := (wB g r28.2 ++ wT cs (fun i => g (1 + i)) N ++ wP cs (fun i => g (12 + i)) P)) [13, 0, 1, 2, 3, 4, 5, 6, 7, 8, 9, 10, 11, 12] (by decide) rfl
  exact hR _ _ _ _ _ _ dX7_join_31 hf hP hD hS
def f_X7_join (x1 : Int32) (x2 : Int32) (B : Nat → Int32) (N : Tw) (P : Ps) : Option (Int32 × (Nat → Int32) × Tw × Ps) :=
  bn (f_X5_hasLoan x1 N) fun r5 =>
  if r5 = 0 then (
    f_X7_join_27 B N P
  ) else (
    bn (f_X5_hasLoan x2 N) fun r16 =>
    if r16 = 0 then (
      f_X7_join_27 B N P
    ) else (
      if x1 = x2 then (
        f_X7_join_27 B N P
      ) else (
        bn (f_X5_canBeJoined x1 x2 N) fun r38 =>
        if r38 = 0 then (
          bn (f_X7_no B) fun r45 =>
          some (r45.1, (r45.2, N, P))
        ) else (
          bn (f_X3_keep P N) fun r57 =>
          bn (f_X5_putTogether x1 x2 N) fun r66 =>
          gi (x1) 8 <|
          some (((r66.2 6) (x1).toNatClampNeg), (B, r66, r57))
        )
      )
    )
  )
set_option maxHeartbeats 4000000 in
set_option maxRecDepth 100000 in
theorem c_X7_join (l : Launch) (dC : Nat → ClassId) (dI : Nat → Nat → Nat) (cs : Nat → ClassId) (g : Nat → Nat) (sz : Nat) (B : Nat → Int32) (N : Tw) (P : Ps) (x1 : Int32) (x2 : Int32) (res : Int32 × (Nat → Int32) × Tw × Ps) (hf : f_X7_join x1 x2 B N P = some res) : Met l yX7_join wsX7_join ({ frames := 2, cells := 0, slots := 0, locals := 48 }) (va_Pc [.ref (g 0), .int (x1), .int (x2)] (fun U => U.heap.size = sz ∧ va_P (dC, dI) vwCl (wB g B ++ wT cs (fun i => g (1 + i)) N ++ wP cs (fun i => g (12 + i)) P) U.heap ∧ GE dC dI cs U ∧ va_D (fun _ => True) (wB g B ++ wT cs (fun i => g (1 + i)) N ++ wP cs (fun i => g (12 + i)) P))) (va_Qi (fun r (u : (Nat → Int32) × Tw × Ps) => r = res.1 ∧ u = res.2) (fun u t => va_P (dC, dI) vwCl ((fun u : (Nat → Int32) × Tw × Ps => (wB g u.1 ++ wT cs (fun i => g (1 + i)) u.2.1 ++ wP cs (fun i => g (12 + i)) u.2.2)) u) t.heap ∧ va_D (va_A (wB g B ++ wT cs (fun i => g (1 + i)) N ++ wP cs (fun i => g (12 + i)) P) sz) ((fun u : (Nat → Int32) × Tw × Ps => (wB g u.1 ++ wT cs (fun i => g (1 + i)) u.2.1 ++ wP cs (fun i => g (12 + i)) u.2.2)) u)) (va_A (wB g B ++ wT cs (fun i => g (1 + i)) N ++ wP cs (fun i => g (12 + i)) P) sz)) 0 0 (va_A (wB g B ++ wT cs (fun i => g (1 + i)) N ++ wP cs (fun i => g (12 + i)) P) sz) := by
  refine Met.ofW (cc := cX7_join) (maxL := 3) (ret := (some .int)) (by decide) rfl ?_
  intro p e s m args below meth c s₁ Bd hml hv
  obtain ⟨rfl, hsz, hP, G, hD0⟩ := hv
  have hts := atoms_spec (ws := wsX7_join) Bd.pre
  have hown : s.vm.findClass RX7 = some m.cls := findClass_of_methodNamed Bd.named
  have hlocks := Bd.notSynchronized
  have hx := Bd.exec
  have hb := Bd.bytes
  have hr := Bd.returns
  have C : CallFix p m c cX7_join 3 s _ wsX7_join RX7 := ⟨hx, hb, hml, hown, hts⟩
  obtain ⟨hK, hN⟩ := id G
  subst hsz
  have hD := hD0.self (sz := s.heap.size)
  generalize hAe : va_A (wB g B ++ wT cs (fun i => g (1 + i)) N ++ wP cs (fun i => g (12 + i)) P) s.heap.size = A at hD ⊢
  have hA : ∀ q : Nat, s.heap.size ≤ q → A q := fun q h => by rw [← hAe]; exact Or.inr h
  have hS : va_S A s.heap s.heap [] := va_S.rf
  have hR : RTi p l e ({ frames := 2, cells := 0, slots := 0, locals := 48 }) s m ([.ref (g 0), .int (x1), .int (x2)] : List Value).toArray below meth c cX7_join (MQ below (va_Qi (fun r (u : (Nat → Int32) × Tw × Ps) => r = res.1 ∧ u = res.2) (fun u t => va_P (dC, dI) vwCl ((fun u : (Nat → Int32) × Tw × Ps => (wB g u.1 ++ wT cs (fun i => g (1 + i)) u.2.1 ++ wP cs (fun i => g (12 + i)) u.2.2)) u) t.heap ∧ va_D A ((fun u : (Nat → Int32) × Tw × Ps => (wB g u.1 ++ wT cs (fun i => g (1 + i)) u.2.1 ++ wP cs (fun i => g (12 + i)) u.2.2)) u)) A) ([.ref (g 0), .int (x1), .int (x2)] : List Value).toArray s 0 0 A) (dC, dI) A (fun u : (Nat → Int32) × Tw × Ps => (wB g u.1 ++ wT cs (fun i => g (1 + i)) u.2.1 ++ wP cs (fun i => g (12 + i)) u.2.2)) res := fun H locs pc ls r u dd h hP hD hS => W.iret hx hb hr (fun t ht hW => ⟨⟨r, u, rfl, by cases h; exact ⟨rfl, rfl⟩, by rw [ht]; exact hP, hD⟩, hS.F ht⟩) hS.2.2 dd
  have hl := lv_entry ([.ref (g 0), .int (x1), .int (x2)]) (n := 3) (Nat.le_of_ble_eq_true rfl)
  rw [lg_entry_eq]
  generalize (lg_sl ([.ref (g 0), .int (x1), .int (x2)]) ++ List.replicate (3 - (lg_sl ([.ref (g 0), .int (x1), .int (x2)])).length) Slot.unset).toArray = ls at hl ⊢
  have hl : lv_has ls 3 [(0, .ref (g 0)), (1, .int (x1)), (2, .int (x2))] := hl
  unfold f_X7_join at hf
  refine lv_aload_n hx hb dX7_join_0 rfl (lv_at hl 0 rfl) ?_
  refine va_get (D := (dC, dI)) (ci := 7) (v := .ref (g 1)) (C := RX7) (T := TX7) (N := 11) hx hb hts in_X7_join_X7 hown hK hP 0 rfl rfl 0 (by decide) (hts (.fieldLink RX7 10 "BackLoans" "now" "LBackLoans$Town;") (by decide +kernel)) (fun _ h9 => h9) rfl dX7_join_1 ?_
  refine lv_iload_n hx hb dX7_join_4 rfl (lv_at hl 1 rfl) ?_
  obtain ⟨r5, hr5, hf⟩ := bn_e hf
  have hPc := hP.sub (ws' := (wT cs (fun i => g (1 + i)) N)) [1, 2, 3, 4, 5, 6, 7, 8, 9, 10, 11] rfl
  refine vp_callSi (W.runV (As := [.int (x1)]) (rest := []) C (c_X5_hasLoan l dC dI cs (fun i => g (1 + i)) N x1 r5 hr5) (cwV 1 hts gX7_join_X5_hasLoan rfl rfl rfl (by decide +kernel) ⟨Nat.le_of_ble_eq_true rfl, Nat.le_of_ble_eq_true rfl⟩) ⟨(fun a U g mk q => ⟨q.1, q.2.1, GE.calling q.2.2⟩), va_recv hK hPc (ci := 5) (q0 := 0) rfl rfl, (fun U hU hW => ⟨rfl, by rw [hU]; exact hPc, GE.warm hW G⟩)⟩ rfl rfl hl.1 rfl (lv_room (Nat.le_of_ble_eq_true rfl)) dX7_join_5 ⟨Nat.le_of_ble_eq_true rfl, Nat.le_of_ble_eq_true rfl⟩) (fun qr5 hqr5 => ?_)
  obtain ⟨hqr5, hnr5⟩ := hqr5
  obtain rfl := hqr5.symm
  refine lv_if_eq (tgt := 27) hx hb dX7_join_8 (by decide) (fun c1 => ?_) (fun c1 => ?_)
  · replace hf := it_t c1 hf
    exact b_X7_join_27 C G hA hR B N P _ _ _ (lv_sub hl [0] rfl) hP hD hS hf
  · replace hf := it_f c1 hf
    refine lv_aload_n hx hb dX7_join_11 rfl (lv_at hl 0 rfl) ?_
    refine va_get (D := (dC, dI)) (ci := 7) (v := .ref (g 1)) (C := RX7) (T := TX7) (N := 11) hx hb hts in_X7_join_X7 hown hK hP 0 rfl rfl 0 (by decide) (hts (.fieldLink RX7 10 "BackLoans" "now" "LBackLoans$Town;") (by decide +kernel)) (fun _ h9 => h9) rfl dX7_join_12 ?_
    refine lv_iload_n hx hb dX7_join_15 rfl (lv_at hl 2 rfl) ?_
    obtain ⟨r16, hr16, hf⟩ := bn_e hf
    have hPc := hP.sub (ws' := (wT cs (fun i => g (1 + i)) N)) [1, 2, 3, 4, 5, 6, 7, 8, 9, 10, 11] rfl
    refine vp_callSi (W.runV (As := [.int (x2)]) (rest := []) C (c_X5_hasLoan l dC dI cs (fun i => g (1 + i)) N x2 r16 hr16) (cwV 1 hts gX7_join_X5_hasLoan rfl rfl rfl (by decide +kernel) ⟨Nat.le_of_ble_eq_true rfl, Nat.le_of_ble_eq_true rfl⟩) ⟨(fun a U g mk q => ⟨q.1, q.2.1, GE.calling q.2.2⟩), va_recv hK hPc (ci := 5) (q0 := 0) rfl rfl, (fun U hU hW => ⟨rfl, by rw [hU]; exact hPc, GE.warm hW G⟩)⟩ rfl rfl hl.1 rfl (lv_room (Nat.le_of_ble_eq_true rfl)) dX7_join_16 ⟨Nat.le_of_ble_eq_true rfl, Nat.le_of_ble_eq_true rfl⟩) (fun qr16 hqr16 => ?_)
    obtain ⟨hqr16, hnr16⟩ := hqr16
    obtain rfl := hqr16.symm
    refine lv_if_eq (tgt := 27) hx hb dX7_join_19 (by decide) (fun c2 => ?_) (fun c2 => ?_)
    · replace hf := it_t c2 hf
      exact b_X7_join_27 C G hA hR B N P _ _ _ (lv_sub hl [0] rfl) hP hD hS hf
    · replace hf := it_f c2 hf
      refine lv_iload_n hx hb dX7_join_22 rfl (lv_at hl 1 rfl) ?_
      refine lv_iload_n hx hb dX7_join_23 rfl (lv_at hl 2 rfl) ?_
      refine lv_icmp_ne (tgt := 32) hx hb dX7_join_24 (by decide) (fun c3 => ?_) (fun c3 => ?_)
      · replace hf := it_f c3 hf
        refine lv_aload_n hx hb dX7_join_32 rfl (lv_at hl 0 rfl) ?_
        refine va_get (D := (dC, dI)) (ci := 7) (v := .ref (g 1)) (C := RX7) (T := TX7) (N := 11) hx hb hts in_X7_join_X7 hown hK hP 0 rfl rfl 0 (by decide) (hts (.fieldLink RX7 10 "BackLoans" "now" "LBackLoans$Town;") (by decide +kernel)) (fun _ h9 => h9) rfl dX7_join_33 ?_
        refine lv_iload_n hx hb dX7_join_36 rfl (lv_at hl 1 rfl) ?_
        refine lv_iload_n hx hb dX7_join_37 rfl (lv_at hl 2 rfl) ?_
        obtain ⟨r38, hr38, hf⟩ := bn_e hf
        have hPc := hP.sub (ws' := (wT cs (fun i => g (1 + i)) N)) [1, 2, 3, 4, 5, 6, 7, 8, 9, 10, 11] rfl
        refine vp_callSi (W.runV (As := [.int (x1), .int (x2)]) (rest := []) C (c_X5_canBeJoined l dC dI cs (fun i => g (1 + i)) N x1 x2 r38 hr38) (cwV 2 hts gX7_join_X5_canBeJoined rfl rfl rfl (by decide +kernel) ⟨Nat.le_of_ble_eq_true rfl, Nat.le_of_ble_eq_true rfl⟩) ⟨(fun a U g mk q => ⟨q.1, q.2.1, GE.calling q.2.2⟩), va_recv hK hPc (ci := 5) (q0 := 0) rfl rfl, (fun U hU hW => ⟨rfl, by rw [hU]; exact hPc, GE.warm hW G⟩)⟩ rfl rfl hl.1 rfl (lv_room (Nat.le_of_ble_eq_true rfl)) dX7_join_38 ⟨Nat.le_of_ble_eq_true rfl, Nat.le_of_ble_eq_true rfl⟩) (fun qr38 hqr38 => ?_)
        obtain ⟨hqr38, hnr38⟩ := hqr38
        obtain rfl := hqr38.symm
        refine lv_if_ne (tgt := 49) hx hb dX7_join_41 (by decide) (fun c4 => ?_) (fun c4 => ?_)
        · replace hf := it_f c4 hf
          refine lv_aload_n hx hb dX7_join_49 rfl (lv_at hl 0 rfl) ?_
          refine va_get (D := (dC, dI)) (ci := 7) (v := .ref (g 12)) (C := RX7) (T := TX7) (N := 11) hx hb hts in_X7_join_X7 hown hK hP 0 rfl rfl 1 (by decide) (hts (.fieldLink RX7 19 "BackLoans" "past" "LBackLoans$Past;") (by decide +kernel)) (fun _ h9 => h9) rfl dX7_join_50 ?_
          refine lv_aload_n hx hb dX7_join_53 rfl (lv_at hl 0 rfl) ?_
          refine va_get (D := (dC, dI)) (ci := 7) (v := .ref (g 1)) (C := RX7) (T := TX7) (N := 11) hx hb hts in_X7_join_X7 hown hK hP 0 rfl rfl 0 (by decide) (hts (.fieldLink RX7 10 "BackLoans" "now" "LBackLoans$Town;") (by decide +kernel)) (fun _ h9 => h9) rfl dX7_join_54 ?_
          obtain ⟨r57, hr57, hf⟩ := bn_e hf
          have hPc := hP.sub (ws' := (wP cs (fun i => g (12 + i)) P ++ wT cs (fun i => g (1 + i)) N)) [12, 13, 1, 2, 3, 4, 5, 6, 7, 8, 9, 10, 11] rfl
          have hDc := hD.sub (ws' := (wP cs (fun i => g (12 + i)) P ++ wT cs (fun i => g (1 + i)) N)) [12, 13, 1, 2, 3, 4, 5, 6, 7, 8, 9, 10, 11] (by decide) rfl
          have hFc := va_free (wc := (wP cs (fun i => g (12 + i)) P ++ wT cs (fun i => g (1 + i)) N)) hD hS hA [12, 13, 1, 2, 3, 4, 5, 6, 7, 8, 9, 10, 11] rfl
          refine va_callv (va_runV (As := [.ref (g 1)]) (rest := []) C (c_X3_keep l dC dI cs (fun i => g (12 + i)) (fun i => g (1 + i)) s.heap.size P N r57 hr57) (cwV 1 hts gX7_join_X3_keep rfl rfl rfl (by decide +kernel) ⟨Nat.le_of_ble_eq_true rfl, Nat.le_of_ble_eq_true rfl⟩) ⟨(fun a U g mk q => ⟨q.1, q.2.1, q.2.2.1, GE.calling q.2.2.2.1, q.2.2.2.2⟩), va_recv hK hPc (ci := 3) (q0 := 0) rfl rfl, (fun U hU hW => ⟨rfl, by rw [hU], by rw [hU]; exact hPc, GE.warm hW G, hDc.weaken (fun _ _ _ _ => trivial)⟩)⟩ rfl rfl hl.1 rfl (lv_room (Nat.le_of_ble_eq_true rfl)) dX7_join_57 ⟨Nat.le_of_ble_eq_true rfl, Nat.le_of_ble_eq_true rfl⟩) hS (fun q _ h => hFc q h) hFc (fun u t H1 locs ht hvm hw hB hz1 hk1 hS => ?_)
          obtain rfl := hw.symm
          obtain ⟨hP1, hD1⟩ := hB
          rw [ht] at hP1
          obtain ⟨hP, hD⟩ := va_join (wr := [0].filterMap (fun i => ((wB g B ++ wT cs (fun i => g (1 + i)) N ++ wP cs (fun i => g (12 + i)) P))[i]?)) (w1 := (wP cs (fun i => g (12 + i)) r57 ++ wT cs (fun i => g (1 + i)) N)) hP hD [12, 13, 1, 2, 3, 4, 5, 6, 7, 8, 9, 10, 11] [0] rfl rfl (by decide) (by decide) hk1 hFc hP1 hD1
          generalize H1 = H at hP hS ⊢
          have hP := hP.sub (ws' := (wB g B ++ wT cs (fun i => g (1 + i)) N ++ wP cs (fun i => g (12 + i)) r57)) [0, 3, 4, 5, 6, 7, 8, 9, 10, 11, 12, 13, 1, 2] rfl
          have hD := hD.sub (ws' := (wB g B ++ wT cs (fun i => g (1 + i)) N ++ wP cs (fun i => g (12 + i)) r57)) [0, 3, 4, 5, 6, 7, 8, 9, 10, 11, 12, 13, 1, 2] (by decide) rfl
          refine lv_aload_n hx hb dX7_join_60 rfl (lv_at hl 0 rfl) ?_
          refine va_get (D := (dC, dI)) (ci := 7) (v := .ref (g 1)) (C := RX7) (T := TX7) (N := 11) hx hb hts in_X7_join_X7 hown hK hP 0 rfl rfl 0 (by decide) (hts (.fieldLink RX7 10 "BackLoans" "now" "LBackLoans$Town;") (by decide +kernel)) (fun _ h9 => h9) rfl dX7_join_61 ?_
          refine lv_iload_n hx hb dX7_join_64 rfl (lv_at hl 1 rfl) ?_
          refine lv_iload_n hx hb dX7_join_65 rfl (lv_at hl 2 rfl) ?_
          obtain ⟨r66, hr66, hf⟩ := bn_e hf
          have hPc := hP.sub (ws' := (wT cs (fun i => g (1 + i)) N)) [1, 2, 3, 4, 5, 6, 7, 8, 9, 10, 11] rfl
          have hDc := hD.sub (ws' := (wT cs (fun i => g (1 + i)) N)) [1, 2, 3, 4, 5, 6, 7, 8, 9, 10, 11] (by decide) rfl
          have hFc := va_free (wc := (wT cs (fun i => g (1 + i)) N)) hD hS hA [1, 2, 3, 4, 5, 6, 7, 8, 9, 10, 11] rfl
          refine va_callv (va_runV (As := [.int (x1), .int (x2)]) (rest := []) C (c_X5_putTogether l dC dI cs (fun i => g (1 + i)) H.size N x1 x2 r66 hr66) (cwV 2 hts gX7_join_X5_putTogether rfl rfl rfl (by decide +kernel) ⟨Nat.le_of_ble_eq_true rfl, Nat.le_of_ble_eq_true rfl⟩) ⟨(fun a U g mk q => ⟨q.1, q.2.1, q.2.2.1, GE.calling q.2.2.2.1, q.2.2.2.2⟩), va_recv hK hPc (ci := 5) (q0 := 0) rfl rfl, (fun U hU hW => ⟨rfl, by rw [hU], by rw [hU]; exact hPc, GE.warm hW G, hDc.weaken (fun _ _ _ _ => trivial)⟩)⟩ rfl rfl hl.1 rfl (lv_room (Nat.le_of_ble_eq_true rfl)) dX7_join_66 ⟨Nat.le_of_ble_eq_true rfl, Nat.le_of_ble_eq_true rfl⟩) hS (fun q _ h => hFc q h) hFc (fun u t H1 locs ht hvm hw hB hz1 hk1 hS => ?_)
          obtain rfl := hw.symm
          obtain ⟨hP1, hD1⟩ := hB
          rw [ht] at hP1
          obtain ⟨hP, hD⟩ := va_join (wr := [0, 12, 13].filterMap (fun i => ((wB g B ++ wT cs (fun i => g (1 + i)) N ++ wP cs (fun i => g (12 + i)) r57))[i]?)) (w1 := (wT cs (fun i => g (1 + i)) r66)) hP hD [1, 2, 3, 4, 5, 6, 7, 8, 9, 10, 11] [0, 12, 13] rfl rfl (by decide) (by decide) hk1 hFc hP1 hD1
          generalize H1 = H at hP hS ⊢
          have hP := hP.sub (ws' := (wB g B ++ wT cs (fun i => g (1 + i)) r66 ++ wP cs (fun i => g (12 + i)) r57)) [0, 3, 4, 5, 6, 7, 8, 9, 10, 11, 12, 13, 1, 2] rfl
          have hD := hD.sub (ws' := (wB g B ++ wT cs (fun i => g (1 + i)) r66 ++ wP cs (fun i => g (12 + i)) r57)) [0, 3, 4, 5, 6, 7, 8, 9, 10, 11, 12, 13, 1, 2] (by decide) rfl
          refine lv_aload_n hx hb dX7_join_69 rfl (lv_at hl 0 rfl) ?_
          refine va_get (D := (dC, dI)) (ci := 7) (v := .ref (g 1)) (C := RX7) (T := TX7) (N := 11) hx hb hts in_X7_join_X7 hown hK hP 0 rfl rfl 0 (by decide) (hts (.fieldLink RX7 10 "BackLoans" "now" "LBackLoans$Town;") (by decide +kernel)) (fun _ h9 => h9) rfl dX7_join_70 ?_
          refine va_get (D := (dC, dI)) (ci := 5) (v := .ref (g 8)) (C := RX5) (T := TX5) (N := 17) hx hb hts in_X7_join_X5 hown hK hP 1 rfl rfl 13 (by decide) (hts (.fieldLink RX7 150 "BackLoans$Town" "state" "[I") (by decide +kernel)) (fun _ h9 => h9) rfl dX7_join_73 ?_
          refine lv_iload_n hx hb dX7_join_76 rfl (lv_at hl 1 rfl) ?_
          obtain ⟨hi5, hf⟩ := gi_e hf
          refine va_iald hx hb hK hP 8 0 rfl rfl hi5 dX7_join_77 ?_
          exact hR _ _ _ _ _ _ dX7_join_78 hf hP hD hS
        · replace hf := it_t c4 hf
          refine lv_aload_n hx hb dX7_join_44 rfl (lv_at hl 0 rfl) ?_
          obtain ⟨r45, hr45, hf⟩ := bn_e hf
          have hPc := hP.sub (ws' := (wB g B)) [0] rfl
          have hDc := hD.sub (ws' := (wB g B)) [0] (by decide) rfl
          have hFc := va_free (wc := (wB g B)) hD hS hA [0] rfl
          refine va_calli (va_runV (As := []) (rest := []) C (c_X7_no l dC dI cs g s.heap.size B r45 hr45) (cwV 0 hts gX7_join_X7_no rfl rfl rfl (by decide +kernel) ⟨Nat.le_of_ble_eq_true rfl, Nat.le_of_ble_eq_true rfl⟩) ⟨(fun a U g mk q => ⟨q.1, q.2.1, q.2.2.1, GE.calling q.2.2.2.1, q.2.2.2.2⟩), va_recv hK hPc (ci := 7) (q0 := 0) rfl rfl, (fun U hU hW => ⟨rfl, by rw [hU], by rw [hU]; exact hPc, GE.warm hW G, hDc.weaken (fun _ _ _ _ => trivial)⟩)⟩ rfl rfl hl.1 rfl (lv_room (Nat.le_of_ble_eq_true rfl)) dX7_join_45 ⟨Nat.le_of_ble_eq_true rfl, Nat.le_of_ble_eq_true rfl⟩) hS (fun q _ h => hFc q h) hFc (fun q u t H1 locs ht hvm hw hB hz1 hk1 hS => ?_)
          obtain ⟨rfl, rfl⟩ := hw
          obtain ⟨hP1, hD1⟩ := hB
          rw [ht] at hP1
          obtain ⟨hP, hD⟩ := va_join (wr := [1, 2, 3, 4, 5, 6, 7, 8, 9, 10, 11, 12, 13].filterMap (fun i => ((wB g B ++ wT cs (fun i => g (1 + i)) N ++ wP cs (fun i => g (12 + i)) P))[i]?)) (w1 := (wB g r45.2)) hP hD [0] [1, 2, 3, 4, 5, 6, 7, 8, 9, 10, 11, 12, 13] rfl rfl (by decide) (by decide) hk1 hFc hP1 hD1
          generalize H1 = H at hP hS ⊢
          have hP := hP.sub (ws' := (wB g r45.2 ++ wT cs (fun i => g (1 + i)) N ++ wP cs (fun i => g (12 + i)) P)) [13, 0, 1, 2, 3, 4, 5, 6, 7, 8, 9, 10, 11, 12] rfl
          have hD := hD.sub (ws' := (wB g r45.2 ++ wT cs (fun i => g (1 + i)) N ++ wP cs (fun i => g (12 + i)) P)) [13, 0, 1, 2, 3, 4, 5, 6, 7, 8, 9, 10, 11, 12] (by decide) rfl
          exact hR _ _ _ _ _ _ dX7_join_48 hf hP hD hS
      · replace hf := it_t c3 hf
        exact b_X7_join_27 C G hA hR B N P _ _ _ (lv_sub hl [0] rfl) hP hD hS hf

theorem in_X7_sell_X5 : ∀ w ∈ wsX50, w ∈ wsX7_sell := by decide +kernel
theorem in_X7_sell_X7 : ∀ w ∈ wsX70, w ∈ wsX7_sell := by decide +kernel
def f_X7_sell_46 (B : Nat → Int32) (N : Tw) (P : Ps)  : Option (Int32 × (Nat → Int32) × Tw × Ps) :=
  bn (f_X7_bad B) fun r47 =>
  some (r47.1, (r47.2, N, P))
set_option maxHeartbeats 4000000 in
set_option maxRecDepth 100000 in
theorem b_X7_sell_46 {p : Program} {l : Launch} {e : Env} {s : State} {m : MethodId} {args : Array Value} {below : List Frame} {meth : Method} {c : Code} {Q : State → Prop} {dC : Nat → ClassId} {dI : Nat → Nat → Nat} {cs : Nat → ClassId} {A : Nat → Prop} {g : Nat → Nat} {res : Int32 × (Nat → Int32) × Tw × Ps} (C : CallFix p m c cX7_sell 6 s args wsX7_sell RX7) (G : GE dC dI cs s) (hA : ∀ q : Nat, s.heap.size ≤ q → A q) (hR : RTi p l e ({ frames := 2, cells := 0, slots := 0, locals := 48 }) s m args below meth c cX7_sell Q (dC, dI) A (fun u : (Nat → Int32) × Tw × Ps => (wB g u.1 ++ wT cs (fun i => g (1 + i)) u.2.1 ++ wP cs (fun i => g (12 + i)) u.2.2)) res) (B : Nat → Int32) (N : Tw) (P : Ps)   (H : Heap) (locs : List Loc) (ls : Array Slot) (hl : lv_has ls 6 [(0, .ref (g 0))]) (hP : va_P (dC, dI) vwCl (wB g B ++ wT cs (fun i => g (1 + i)) N ++ wP cs (fun i => g (12 + i)) P) H) (hD : va_D A (wB g B ++ wT cs (fun i => g (1 + i)) N ++ wP cs (fun i => g (12 + i)) P)) (hS : va_S A s.heap H locs) (hf : f_X7_sell_46 B N P = some res) : W p l e ({ frames := 2, cells := 0, slots := 0, locals := 48 }) s m args below meth c H locs 0 0 Q (F0 m 46 ls []) := by
  obtain ⟨hx, hb, hml, hown, hts⟩ := id C
  obtain ⟨hK, hN⟩ := id G
  unfold f_X7_sell_46 at hf
  refine lv_aload_n hx hb dX7_sell_46 rfl (lv_at hl 0 rfl) ?_
  obtain ⟨r47, hr47, hf⟩ := bn_e hf
  have hPc := hP.sub (ws' := (wB g B)) [0] rfl
  have hDc := hD.sub (ws' := (wB g B)) [0] (by decide) rfl
  have hFc := va_free (wc := (wB g B)) hD hS hA [0] rfl
  refine va_calli (va_runV (As := []) (rest := []) C (c_X7_bad l dC dI cs g H.size B r47 hr47) (cwV 0 hts gX7_sell_X7_bad rfl rfl rfl (by decide +kernel) ⟨Nat.le_of_ble_eq_true rfl, Nat.le_of_ble_eq_true rfl⟩) ⟨(fun a U g mk q => ⟨q.1, q.2.1, q.2.2.1, GE.calling q.2.2.2.1, q.2.2.2.2⟩), va_recv hK hPc (ci := 7) (q0 := 0) rfl rfl, (fun U hU hW => ⟨rfl, by rw [hU], by rw [hU]; exact hPc, GE.warm hW G, hDc.weaken (fun _ _ _ _ => trivial)⟩)⟩ rfl rfl hl.1 rfl (lv_room (Nat.le_of_ble_eq_true rfl)) dX7_sell_47 ⟨Nat.le_of_ble_eq_true rfl, Nat.le_of_ble_eq_true rfl⟩) hS (fun q _ h => hFc q h) hFc (fun q u t H1 locs ht hvm hw hB hz1 hk1 hS => ?_)
  obtain ⟨rfl, rfl⟩ := hw
  obtain ⟨hP1, hD1⟩ := hB
  rw [ht] at hP1
  obtain ⟨hP, hD⟩ := va_join (wr := [1, 2, 3, 4, 5, 6, 7, 8, 9, 10, 11, 12, 13].filterMap (fun i => ((wB g B ++ wT cs (fun i => g (1 + i)) N ++ wP cs (fun i => g (12 + i)) P))[i]?)) (w1 := (wB g r47.2)) hP hD [0] [1, 2, 3, 4, 5, 6, 7, 8, 9, 10, 11, 12, 13] rfl rfl (by decide) (by decide) hk1 hFc hP1 hD1
  generalize H1 = H at hP hS ⊢
  have hP := hP.sub (ws' := (wB g r47.2 ++ wT cs (fun i => g (1 + i)) N ++ wP cs (fun i => g (12 + i)) P)) [13, 0, 1, 2, 3, 4, 5, 6, 7, 8, 9, 10, 11, 12] rfl
  have hD := hD.sub (ws' := (wB g r47.2 ++ wT cs (fun i => g (1 + i)) N ++ wP cs (fun i => g (12 + i)) P)) [13, 0, 1, 2, 3, 4, 5, 6, 7, 8, 9, 10, 11, 12] (by decide) rfl
  exact hR _ _ _ _ _ _ dX7_sell_50 hf hP hD hS
def f_X7_sell_101 (B : Nat → Int32) (N : Tw) (P : Ps)  : Option (Int32 × (Nat → Int32) × Tw × Ps) :=
  bn (f_X7_no B) fun r102 =>
  some (r102.1, (r102.2, N, P))
set_option maxHeartbeats 4000000 in
set_option maxRecDepth 100000 in
theorem b_X7_sell_101 {p : Program} {l : Launch} {e : Env} {s : State} {m : MethodId} {args : Array Value} {below : List Frame} {meth : Method} {c : Code} {Q : State → Prop} {dC : Nat → ClassId} {dI : Nat → Nat → Nat} {cs : Nat → ClassId} {A : Nat → Prop} {g : Nat → Nat} {res : Int32 × (Nat → Int32) × Tw × Ps} (C : CallFix p m c cX7_sell 6 s args wsX7_sell RX7) (G : GE dC dI cs s) (hA : ∀ q : Nat, s.heap.size ≤ q → A q) (hR : RTi p l e ({ frames := 2, cells := 0, slots := 0, locals := 48 }) s m args below meth c cX7_sell Q (dC, dI) A (fun u : (Nat → Int32) × Tw × Ps => (wB g u.1 ++ wT cs (fun i => g (1 + i)) u.2.1 ++ wP cs (fun i => g (12 + i)) u.2.2)) res) (B : Nat → Int32) (N : Tw) (P : Ps)   (H : Heap) (locs : List Loc) (ls : Array Slot) (hl : lv_has ls 6 [(0, .ref (g 0))]) (hP : va_P (dC, dI) vwCl (wB g B ++ wT cs (fun i => g (1 + i)) N ++ wP cs (fun i => g (12 + i)) P) H) (hD : va_D A (wB g B ++ wT cs (fun i => g (1 + i)) N ++ wP cs (fun i => g (12 + i)) P)) (hS : va_S A s.heap H locs) (hf : f_X7_sell_101 B N P = some res) : W p l e ({ frames := 2, cells := 0, slots := 0, locals := 48 }) s m args below meth c H locs 0 0 Q (F0 m 101 ls []) := by
  obtain ⟨hx, hb, hml, hown, hts⟩ := id C
  obtain ⟨hK, hN⟩ := id G
  unfold f_X7_sell_101 at hf
  refine lv_aload_n hx hb dX7_sell_101 rfl (lv_at hl 0 rfl) ?_
  obtain ⟨r102, hr102, hf⟩ := bn_e hf
  have hPc := hP.sub (ws' := (wB g B)) [0] rfl
  have hDc := hD.sub (ws' := (wB g B)) [0] (by decide) rfl
  have hFc := va_free (wc := (wB g B)) hD hS hA [0] rfl
  refine va_calli (va_runV (As := []) (rest := []) C (c_X7_no l dC dI cs g H.size B r102 hr102) (cwV 0 hts gX7_sell_X7_no rfl rfl rfl (by decide +kernel) ⟨Nat.le_of_ble_eq_true rfl, Nat.le_of_ble_eq_true rfl⟩) ⟨(fun a U g mk q => ⟨q.1, q.2.1, q.2.2.1, GE.calling q.2.2.2.1, q.2.2.2.2⟩), va_recv hK hPc (ci := 7) (q0 := 0) rfl rfl, (fun U hU hW => ⟨rfl, by rw [hU], by rw [hU]; exact hPc, GE.warm hW G, hDc.weaken (fun _ _ _ _ => trivial)⟩)⟩ rfl rfl hl.1 rfl (lv_room (Nat.le_of_ble_eq_true rfl)) dX7_sell_102 ⟨Nat.le_of_ble_eq_true rfl, Nat.le_of_ble_eq_true rfl⟩) hS (fun q _ h => hFc q h) hFc (fun q u t H1 locs ht hvm hw hB hz1 hk1 hS => ?_)
  obtain ⟨rfl, rfl⟩ := hw
  obtain ⟨hP1, hD1⟩ := hB
  rw [ht] at hP1
  obtain ⟨hP, hD⟩ := va_join (wr := [1, 2, 3, 4, 5, 6, 7, 8, 9, 10, 11, 12, 13].filterMap (fun i => ((wB g B ++ wT cs (fun i => g (1 + i)) N ++ wP cs (fun i => g (12 + i)) P))[i]?)) (w1 := (wB g r102.2)) hP hD [0] [1, 2, 3, 4, 5, 6, 7, 8, 9, 10, 11, 12, 13] rfl rfl (by decide) (by decide) hk1 hFc hP1 hD1
  generalize H1 = H at hP hS ⊢
  have hP := hP.sub (ws' := (wB g r102.2 ++ wT cs (fun i => g (1 + i)) N ++ wP cs (fun i => g (12 + i)) P)) [13, 0, 1, 2, 3, 4, 5, 6, 7, 8, 9, 10, 11, 12] rfl
  have hD := hD.sub (ws' := (wB g r102.2 ++ wT cs (fun i => g (1 + i)) N ++ wP cs (fun i => g (12 + i)) P)) [13, 0, 1, 2, 3, 4, 5, 6, 7, 8, 9, 10, 11, 12] (by decide) rfl
  exact hR _ _ _ _ _ _ dX7_sell_105 hf hP hD hS
def f_X7_sell_81 (x1 : Int32) (x2 : Int32) (x3 : Int32) (s0 : Int32) (B : Nat → Int32) (N : Tw) (P : Ps)  : Option (Int32 × (Nat → Int32) × Tw × Ps) :=
  if s0 = 0 then (
    f_X7_sell_101 B N P
  ) else (
    gi (x2) 6 <|
    if x3 ≤ ((N.2 2) (x2).toNatClampNeg) then (
      bn (f_X3_keep P N) fun r114 =>
      gi (x1) 8 <|
      lett ((N.2 3) (x1).toNatClampNeg) fun x5_126 =>
      gi (x2) 6 <|
      gi (x2) 6 <|
      lett ((N.1, va_up N.2 2 (upd (N.2 2) (x2).toNatClampNeg ((((N.2 2) (x2).toNatClampNeg) - x3))))) fun N_140 =>
      gi (x5_126) 6 <|
      gi (x5_126) 6 <|
      lett ((N_140.1, va_up N_140.2 2 (upd (N_140.2 2) (x5_126).toNatClampNeg ((if (((N_140.2 2) (x5_126).toNatClampNeg) + x3) < (9999 : Int32) then (((N_140.2 2) (x5_126).toNatClampNeg) + x3) else (9999 : Int32)))))) fun N_168 =>
      gi (x1) 8 <|
      lett ((N_168.1, va_up N_168.2 3 (upd (N_168.2 3) (x1).toNatClampNeg (x2)))) fun N_178 =>
      some (x5_126, (B, N_178, r114))
    ) else (
      f_X7_sell_101 B N P
    )
  )
set_option maxHeartbeats 4000000 in
set_option maxRecDepth 100000 in
theorem b_X7_sell_81 {p : Program} {l : Launch} {e : Env} {s : State} {m : MethodId} {args : Array Value} {below : List Frame} {meth : Method} {c : Code} {Q : State → Prop} {dC : Nat → ClassId} {dI : Nat → Nat → Nat} {cs : Nat → ClassId} {A : Nat → Prop} {g : Nat → Nat} {res : Int32 × (Nat → Int32) × Tw × Ps} (C : CallFix p m c cX7_sell 6 s args wsX7_sell RX7) (G : GE dC dI cs s) (hA : ∀ q : Nat, s.heap.size ≤ q → A q) (hR : RTi p l e ({ frames := 2, cells := 0, slots := 0, locals := 48 }) s m args below meth c cX7_sell Q (dC, dI) A (fun u : (Nat → Int32) × Tw × Ps => (wB g u.1 ++ wT cs (fun i => g (1 + i)) u.2.1 ++ wP cs (fun i => g (12 + i)) u.2.2)) res) (x1 : Int32) (x2 : Int32) (x3 : Int32) (s0 : Int32) (B : Nat → Int32) (N : Tw) (P : Ps)   (H : Heap) (locs : List Loc) (ls : Array Slot) (hl : lv_has ls 6 [(0, .ref (g 0)), (1, .int (x1)), (2, .int (x2)), (3, .int (x3))]) (hP : va_P (dC, dI) vwCl (wB g B ++ wT cs (fun i => g (1 + i)) N ++ wP cs (fun i => g (12 + i)) P) H) (hD : va_D A (wB g B ++ wT cs (fun i => g (1 + i)) N ++ wP cs (fun i => g (12 + i)) P)) (hS : va_S A s.heap H locs) (hf : f_X7_sell_81 x1 x2 x3 s0 B N P = some res) : W p l e ({ frames := 2, cells := 0, slots := 0, locals := 48 }) s m args below meth c H locs 0 0 Q (F0 m 81 ls [.int (s0)]) := by
  obtain ⟨hx, hb, hml, hown, hts⟩ := id C
  obtain ⟨hK, hN⟩ := id G
  unfold f_X7_sell_81 at hf
  refine lv_istore (lv' := [(4, .int (s0)), (0, .ref (g 0)), (1, .int (x1)), (2, .int (x2)), (3, .int (x3))]) hx hb dX7_sell_81 hl (by decide) rfl (fun ls hl => ?_)
  refine lv_iload hx hb dX7_sell_83 (lv_at hl 0 rfl) ?_
  refine lv_if_eq (tgt := 101) hx hb dX7_sell_85 (by decide) (fun c1 => ?_) (fun c1 => ?_)
  · replace hf := it_t c1 hf
    exact b_X7_sell_101 C G hA hR B N P _ _ _ (lv_sub hl [1] rfl) hP hD hS hf
  · replace hf := it_f c1 hf
    refine lv_aload_n hx hb dX7_sell_88 rfl (lv_at hl 1 rfl) ?_
    refine va_get (D := (dC, dI)) (ci := 7) (v := .ref (g 1)) (C := RX7) (T := TX7) (N := 11) hx hb hts in_X7_sell_X7 hown hK hP 0 rfl rfl 0 (by decide) (hts (.fieldLink RX7 10 "BackLoans" "now" "LBackLoans$Town;") (by decide +kernel)) (fun _ h9 => h9) rfl dX7_sell_89 ?_
    refine va_get (D := (dC, dI)) (ci := 5) (v := .ref (g 4)) (C := RX5) (T := TX5) (N := 17) hx hb hts in_X7_sell_X5 hown hK hP 1 rfl rfl 9 (by decide) (hts (.fieldLink RX7 157 "BackLoans$Town" "purse" "[I") (by decide +kernel)) (fun _ h9 => h9) rfl dX7_sell_92 ?_
    refine lv_iload_n hx hb dX7_sell_95 rfl (lv_at hl 3 rfl) ?_
    obtain ⟨hi2, hf⟩ := gi_e hf
    refine va_iald hx hb hK hP 4 0 rfl rfl hi2 dX7_sell_96 ?_
    refine lv_iload_n hx hb dX7_sell_97 rfl (lv_at hl 4 rfl) ?_
    refine lv_icmp_ge (tgt := 106) hx hb dX7_sell_98 (by decide) (fun c3 => ?_) (fun c3 => ?_)
    · replace hf := it_t c3 hf
      refine lv_aload_n hx hb dX7_sell_106 rfl (lv_at hl 1 rfl) ?_
      refine va_get (D := (dC, dI)) (ci := 7) (v := .ref (g 12)) (C := RX7) (T := TX7) (N := 11) hx hb hts in_X7_sell_X7 hown hK hP 0 rfl rfl 1 (by decide) (hts (.fieldLink RX7 19 "BackLoans" "past" "LBackLoans$Past;") (by decide +kernel)) (fun _ h9 => h9) rfl dX7_sell_107 ?_
      refine lv_aload_n hx hb dX7_sell_110 rfl (lv_at hl 1 rfl) ?_
      refine va_get (D := (dC, dI)) (ci := 7) (v := .ref (g 1)) (C := RX7) (T := TX7) (N := 11) hx hb hts in_X7_sell_X7 hown hK hP 0 rfl rfl 0 (by decide) (hts (.fieldLink RX7 10 "BackLoans" "now" "LBackLoans$Town;") (by decide +kernel)) (fun _ h9 => h9) rfl dX7_sell_111 ?_
      obtain ⟨r114, hr114, hf⟩ := bn_e hf
      have hPc := hP.sub (ws' := (wP cs (fun i => g (12 + i)) P ++ wT cs (fun i => g (1 + i)) N)) [12, 13, 1, 2, 3, 4, 5, 6, 7, 8, 9, 10, 11] rfl
      have hDc := hD.sub (ws' := (wP cs (fun i => g (12 + i)) P ++ wT cs (fun i => g (1 + i)) N)) [12, 13, 1, 2, 3, 4, 5, 6, 7, 8, 9, 10, 11] (by decide) rfl
      have hFc := va_free (wc := (wP cs (fun i => g (12 + i)) P ++ wT cs (fun i => g (1 + i)) N)) hD hS hA [12, 13, 1, 2, 3, 4, 5, 6, 7, 8, 9, 10, 11] rfl
      refine va_callv (va_runV (As := [.ref (g 1)]) (rest := []) C (c_X3_keep l dC dI cs (fun i => g (12 + i)) (fun i => g (1 + i)) H.size P N r114 hr114) (cwV 1 hts gX7_sell_X3_keep rfl rfl rfl (by decide +kernel) ⟨Nat.le_of_ble_eq_true rfl, Nat.le_of_ble_eq_true rfl⟩) ⟨(fun a U g mk q => ⟨q.1, q.2.1, q.2.2.1, GE.calling q.2.2.2.1, q.2.2.2.2⟩), va_recv hK hPc (ci := 3) (q0 := 0) rfl rfl, (fun U hU hW => ⟨rfl, by rw [hU], by rw [hU]; exact hPc, GE.warm hW G, hDc.weaken (fun _ _ _ _ => trivial)⟩)⟩ rfl rfl hl.1 rfl (lv_room (Nat.le_of_ble_eq_true rfl)) dX7_sell_114 ⟨Nat.le_of_ble_eq_true rfl, Nat.le_of_ble_eq_true rfl⟩) hS (fun q _ h => hFc q h) hFc (fun u t H1 locs ht hvm hw hB hz1 hk1 hS => ?_)
      obtain rfl := hw.symm
      obtain ⟨hP1, hD1⟩ := hB
      rw [ht] at hP1
      obtain ⟨hP, hD⟩ := va_join (wr := [0].filterMap (fun i => ((wB g B ++ wT cs (fun i => g (1 + i)) N ++ wP cs (fun i => g (12 + i)) P))[i]?)) (w1 := (wP cs (fun i => g (12 + i)) r114 ++ wT cs (fun i => g (1 + i)) N)) hP hD [12, 13, 1, 2, 3, 4, 5, 6, 7, 8, 9, 10, 11] [0] rfl rfl (by decide) (by decide) hk1 hFc hP1 hD1
      generalize H1 = H at hP hS ⊢
      have hP := hP.sub (ws' := (wB g B ++ wT cs (fun i => g (1 + i)) N ++ wP cs (fun i => g (12 + i)) r114)) [0, 3, 4, 5, 6, 7, 8, 9, 10, 11, 12, 13, 1, 2] rfl
      have hD := hD.sub (ws' := (wB g B ++ wT cs (fun i => g (1 + i)) N ++ wP cs (fun i => g (12 + i)) r114)) [0, 3, 4, 5, 6, 7, 8, 9, 10, 11, 12, 13, 1, 2] (by decide) rfl
      refine lv_aload_n hx hb dX7_sell_117 rfl (lv_at hl 1 rfl) ?_
      refine va_get (D := (dC, dI)) (ci := 7) (v := .ref (g 1)) (C := RX7) (T := TX7) (N := 11) hx hb hts in_X7_sell_X7 hown hK hP 0 rfl rfl 0 (by decide) (hts (.fieldLink RX7 10 "BackLoans" "now" "LBackLoans$Town;") (by decide +kernel)) (fun _ h9 => h9) rfl dX7_sell_118 ?_
      refine va_get (D := (dC, dI)) (ci := 5) (v := .ref (g 5)) (C := RX5) (T := TX5) (N := 17) hx hb hts in_X7_sell_X5 hown hK hP 1 rfl rfl 10 (by decide) (hts (.fieldLink RX7 154 "BackLoans$Town" "owner" "[I") (by decide +kernel)) (fun _ h9 => h9) rfl dX7_sell_121 ?_
      refine lv_iload_n hx hb dX7_sell_124 rfl (lv_at hl 2 rfl) ?_
      obtain ⟨hi4, hf⟩ := gi_e hf
      refine va_iald hx hb hK hP 5 0 rfl rfl hi4 dX7_sell_125 ?_
      refine lv_topi (fun x5_126 ex5_126 => ?_)
      replace hf := lett_s ex5_126 hf
      refine lv_istore (lv' := [(5, .int (x5_126)), (4, .int (s0)), (0, .ref (g 0)), (1, .int (x1)), (2, .int (x2)), (3, .int (x3))]) hx hb dX7_sell_126 hl (by decide) rfl (fun ls hl => ?_)
      refine lv_aload_n hx hb dX7_sell_128 rfl (lv_at hl 2 rfl) ?_
      refine va_get (D := (dC, dI)) (ci := 7) (v := .ref (g 1)) (C := RX7) (T := TX7) (N := 11) hx hb hts in_X7_sell_X7 hown hK hP 0 rfl rfl 0 (by decide) (hts (.fieldLink RX7 10 "BackLoans" "now" "LBackLoans$Town;") (by decide +kernel)) (fun _ h9 => h9) rfl dX7_sell_129 ?_
      refine va_get (D := (dC, dI)) (ci := 5) (v := .ref (g 4)) (C := RX5) (T := TX5) (N := 17) hx hb hts in_X7_sell_X5 hown hK hP 1 rfl rfl 9 (by decide) (hts (.fieldLink RX7 157 "BackLoans$Town" "purse" "[I") (by decide +kernel)) (fun _ h9 => h9) rfl dX7_sell_132 ?_
      refine lv_iload_n hx hb dX7_sell_135 rfl (lv_at hl 4 rfl) ?_
      refine lv_dup2_11 hx hb dX7_sell_136 rfl rfl ?_
      obtain ⟨hi5, hf⟩ := gi_e hf
      refine va_iald hx hb hK hP 4 0 rfl rfl hi5 dX7_sell_137 ?_
      refine lv_iload_n hx hb dX7_sell_138 rfl (lv_at hl 5 rfl) ?_
      refine lv_isub hx hb dX7_sell_139 ?_
      obtain ⟨hi6, hf⟩ := gi_e hf
      refine va_iast hx hb hK hP hD hS 4 0 rfl rfl hi6 dX7_sell_140 (fun H locs hP hD hS => ?_)
      obtain ⟨N_140, hP, hD, hf⟩ := st_nm (ws := fun N_140 : Tw => (wB g B ++ wT cs (fun i => g (1 + i)) N_140 ++ wP cs (fun i => g (12 + i)) r114)) ((N.1, va_up N.2 2 (upd (N.2 2) (x2).toNatClampNeg ((((N.2 2) (x2).toNatClampNeg) - x3))))) hP hD hf
      refine lv_aload_n hx hb dX7_sell_141 rfl (lv_at hl 2 rfl) ?_
      refine va_get (D := (dC, dI)) (ci := 7) (v := .ref (g 1)) (C := RX7) (T := TX7) (N := 11) hx hb hts in_X7_sell_X7 hown hK hP 0 rfl rfl 0 (by decide) (hts (.fieldLink RX7 10 "BackLoans" "now" "LBackLoans$Town;") (by decide +kernel)) (fun _ h9 => h9) rfl dX7_sell_142 ?_
      refine va_get (D := (dC, dI)) (ci := 5) (v := .ref (g 4)) (C := RX5) (T := TX5) (N := 17) hx hb hts in_X7_sell_X5 hown hK hP 1 rfl rfl 9 (by decide) (hts (.fieldLink RX7 157 "BackLoans$Town" "purse" "[I") (by decide +kernel)) (fun _ h9 => h9) rfl dX7_sell_145 ?_
      refine lv_iload hx hb dX7_sell_148 (lv_at hl 0 rfl) ?_
      refine lv_sipush (v := 9999) hx hb dX7_sell_150 (by decide) ?_
      refine lv_aload_n hx hb dX7_sell_153 rfl (lv_at hl 2 rfl) ?_
      refine va_get (D := (dC, dI)) (ci := 7) (v := .ref (g 1)) (C := RX7) (T := TX7) (N := 11) hx hb hts in_X7_sell_X7 hown hK hP 0 rfl rfl 0 (by decide) (hts (.fieldLink RX7 10 "BackLoans" "now" "LBackLoans$Town;") (by decide +kernel)) (fun _ h9 => h9) rfl dX7_sell_154 ?_
      refine va_get (D := (dC, dI)) (ci := 5) (v := .ref (g 4)) (C := RX5) (T := TX5) (N := 17) hx hb hts in_X7_sell_X5 hown hK hP 1 rfl rfl 9 (by decide) (hts (.fieldLink RX7 157 "BackLoans$Town" "purse" "[I") (by decide +kernel)) (fun _ h9 => h9) rfl dX7_sell_157 ?_
      refine lv_iload hx hb dX7_sell_160 (lv_at hl 0 rfl) ?_
      obtain ⟨hi7, hf⟩ := gi_e hf
      refine va_iald hx hb hK hP 4 0 rfl rfl hi7 dX7_sell_162 ?_
      refine lv_iload_n hx hb dX7_sell_163 rfl (lv_at hl 5 rfl) ?_
      refine lv_iadd hx hb dX7_sell_164 ?_
      refine va_mmin hx hb (hml.trans hl.1.symm) hown (hts (.methodLink RX7 160 Lib.Math.min.name) (by decide +kernel)) (hts (.static Lib.Math.min.name) (by decide +kernel)) (hts (.initialized "java/lang/Math") (by decide +kernel)) (hts (.code Lib.Math.min.name Lib.Math.min.code 2 (some .int)) (by decide +kernel)) (Nat.le_of_ble_eq_true rfl) (Nat.le_of_ble_eq_true rfl) (Nat.le_of_ble_eq_true rfl) (Nat.le_of_ble_eq_true rfl) dX7_sell_165 ?_
      obtain ⟨hi8, hf⟩ := gi_e hf
      refine va_iast hx hb hK hP hD hS 4 0 rfl rfl hi8 dX7_sell_168 (fun H locs hP hD hS => ?_)
      obtain ⟨N_168, hP, hD, hf⟩ := st_nm (ws := fun N_168 : Tw => (wB g B ++ wT cs (fun i => g (1 + i)) N_168 ++ wP cs (fun i => g (12 + i)) r114)) ((N_140.1, va_up N_140.2 2 (upd (N_140.2 2) (x5_126).toNatClampNeg ((if (((N_140.2 2) (x5_126).toNatClampNeg) + x3) < (9999 : Int32) then (((N_140.2 2) (x5_126).toNatClampNeg) + x3) else (9999 : Int32)))))) hP hD hf
      refine lv_aload_n hx hb dX7_sell_169 rfl (lv_at hl 2 rfl) ?_
      refine va_get (D := (dC, dI)) (ci := 7) (v := .ref (g 1)) (C := RX7) (T := TX7) (N := 11) hx hb hts in_X7_sell_X7 hown hK hP 0 rfl rfl 0 (by decide) (hts (.fieldLink RX7 10 "BackLoans" "now" "LBackLoans$Town;") (by decide +kernel)) (fun _ h9 => h9) rfl dX7_sell_170 ?_
      refine va_get (D := (dC, dI)) (ci := 5) (v := .ref (g 5)) (C := RX5) (T := TX5) (N := 17) hx hb hts in_X7_sell_X5 hown hK hP 1 rfl rfl 10 (by decide) (hts (.fieldLink RX7 154 "BackLoans$Town" "owner" "[I") (by decide +kernel)) (fun _ h9 => h9) rfl dX7_sell_173 ?_
      refine lv_iload_n hx hb dX7_sell_176 rfl (lv_at hl 3 rfl) ?_
      refine lv_iload_n hx hb dX7_sell_177 rfl (lv_at hl 4 rfl) ?_
      obtain ⟨hi9, hf⟩ := gi_e hf
      refine va_iast hx hb hK hP hD hS 5 0 rfl rfl hi9 dX7_sell_178 (fun H locs hP hD hS => ?_)
      obtain ⟨N_178, hP, hD, hf⟩ := st_nm (ws := fun N_178 : Tw => (wB g B ++ wT cs (fun i => g (1 + i)) N_178 ++ wP cs (fun i => g (12 + i)) r114)) ((N_168.1, va_up N_168.2 3 (upd (N_168.2 3) (x1).toNatClampNeg (x2)))) hP hD hf
      refine lv_iload hx hb dX7_sell_179 (lv_at hl 0 rfl) ?_
      exact hR _ _ _ _ _ _ dX7_sell_181 hf hP hD hS
    · replace hf := it_f c3 hf
      exact b_X7_sell_101 C G hA hR B N P _ _ _ (lv_sub hl [1] rfl) hP hD hS hf
def f_X7_sell_76 (x1 : Int32) (x2 : Int32) (x3 : Int32) (B : Nat → Int32) (N : Tw) (P : Ps)  : Option (Int32 × (Nat → Int32) × Tw × Ps) :=
  f_X7_sell_81 x1 x2 x3 (1 : Int32) B N P
set_option maxHeartbeats 4000000 in
set_option maxRecDepth 100000 in
theorem b_X7_sell_76 {p : Program} {l : Launch} {e : Env} {s : State} {m : MethodId} {args : Array Value} {below : List Frame} {meth : Method} {c : Code} {Q : State → Prop} {dC : Nat → ClassId} {dI : Nat → Nat → Nat} {cs : Nat → ClassId} {A : Nat → Prop} {g : Nat → Nat} {res : Int32 × (Nat → Int32) × Tw × Ps} (C : CallFix p m c cX7_sell 6 s args wsX7_sell RX7) (G : GE dC dI cs s) (hA : ∀ q : Nat, s.heap.size ≤ q → A q) (hR : RTi p l e ({ frames := 2, cells := 0, slots := 0, locals := 48 }) s m args below meth c cX7_sell Q (dC, dI) A (fun u : (Nat → Int32) × Tw × Ps => (wB g u.1 ++ wT cs (fun i => g (1 + i)) u.2.1 ++ wP cs (fun i => g (12 + i)) u.2.2)) res) (x1 : Int32) (x2 : Int32) (x3 : Int32) (B : Nat → Int32) (N : Tw) (P : Ps)   (H : Heap) (locs : List Loc) (ls : Array Slot) (hl : lv_has ls 6 [(0, .ref (g 0)), (1, .int (x1)), (2, .int (x2)), (3, .int (x3))]) (hP : va_P (dC, dI) vwCl (wB g B ++ wT cs (fun i => g (1 + i)) N ++ wP cs (fun i => g (12 + i)) P) H) (hD : va_D A (wB g B ++ wT cs (fun i => g (1 + i)) N ++ wP cs (fun i => g (12 + i)) P)) (hS : va_S A s.heap H locs) (hf : f_X7_sell_76 x1 x2 x3 B N P = some res) : W p l e ({ frames := 2, cells := 0, slots := 0, locals := 48 }) s m args below meth c H locs 0 0 Q (F0 m 76 ls []) := by
  obtain ⟨hx, hb, hml, hown, hts⟩ := id C
  obtain ⟨hK, hN⟩ := id G
  unfold f_X7_sell_76 at hf
  refine lv_iconst (v := 1) hx hb dX7_sell_76 (by decide) ?_
  refine lv_goto (tgt := 81) hx hb dX7_sell_77 (by decide) ?_
  exact b_X7_sell_81 C G hA hR x1 x2 x3 (1 : Int32) B N P _ _ _ (lv_sub hl [0, 1, 2, 3] rfl) hP hD hS hf
def f_X7_sell (x1 : Int32) (x2 : Int32) (x3 : Int32) (B : Nat → Int32) (N : Tw) (P : Ps) : Option (Int32 × (Nat → Int32) × Tw × Ps) :=
  bn (f_X5_hasLoan x1 N) fun r5 =>
  if r5 = 0 then (
    f_X7_sell_46 B N P
  ) else (
    bn (f_X5_hasPerson x2 N) fun r16 =>
    if r16 = 0 then (
      f_X7_sell_46 B N P
    ) else (
      bn (f_X7_within x3 (0 : Int32) (9999 : Int32)) fun r27 =>
      if r27 = 0 then (
        f_X7_sell_46 B N P
      ) else (
        gi (x1) 8 <|
        if ((N.2 3) (x1).toNatClampNeg) = x2 then (
          f_X7_sell_46 B N P
        ) else (
          gi (x1) 8 <|
          if ((N.2 6) (x1).toNatClampNeg) = 0 then (
            f_X7_sell_76 x1 x2 x3 B N P
          ) else (
            gi (x1) 8 <|
            if ((N.2 6) (x1).toNatClampNeg) = (2 : Int32) then (
              f_X7_sell_76 x1 x2 x3 B N P
            ) else (
              f_X7_sell_81 x1 x2 x3 (0 : Int32) B N P
            )
          )
        )
      )
    )
  )
set_option maxHeartbeats 4000000 in
set_option maxRecDepth 100000 in
theorem c_X7_sell (l : Launch) (dC : Nat → ClassId) (dI : Nat → Nat → Nat) (cs : Nat → ClassId) (g : Nat → Nat) (sz : Nat) (B : Nat → Int32) (N : Tw) (P : Ps) (x1 : Int32) (x2 : Int32) (x3 : Int32) (res : Int32 × (Nat → Int32) × Tw × Ps) (hf : f_X7_sell x1 x2 x3 B N P = some res) : Met l yX7_sell wsX7_sell ({ frames := 2, cells := 0, slots := 0, locals := 48 }) (va_Pc [.ref (g 0), .int (x1), .int (x2), .int (x3)] (fun U => U.heap.size = sz ∧ va_P (dC, dI) vwCl (wB g B ++ wT cs (fun i => g (1 + i)) N ++ wP cs (fun i => g (12 + i)) P) U.heap ∧ GE dC dI cs U ∧ va_D (fun _ => True) (wB g B ++ wT cs (fun i => g (1 + i)) N ++ wP cs (fun i => g (12 + i)) P))) (va_Qi (fun r (u : (Nat → Int32) × Tw × Ps) => r = res.1 ∧ u = res.2) (fun u t => va_P (dC, dI) vwCl ((fun u : (Nat → Int32) × Tw × Ps => (wB g u.1 ++ wT cs (fun i => g (1 + i)) u.2.1 ++ wP cs (fun i => g (12 + i)) u.2.2)) u) t.heap ∧ va_D (va_A (wB g B ++ wT cs (fun i => g (1 + i)) N ++ wP cs (fun i => g (12 + i)) P) sz) ((fun u : (Nat → Int32) × Tw × Ps => (wB g u.1 ++ wT cs (fun i => g (1 + i)) u.2.1 ++ wP cs (fun i => g (12 + i)) u.2.2)) u)) (va_A (wB g B ++ wT cs (fun i => g (1 + i)) N ++ wP cs (fun i => g (12 + i)) P) sz)) 0 0 (va_A (wB g B ++ wT cs (fun i => g (1 + i)) N ++ wP cs (fun i => g (12 + i)) P) sz) := by
  refine Met.ofW (cc := cX7_sell) (maxL := 6) (ret := (some .int)) (by decide) rfl ?_
  intro p e s m args below meth c s₁ Bd hml hv
  obtain ⟨rfl, hsz, hP, G, hD0⟩ := hv
  have hts := atoms_spec (ws := wsX7_sell) Bd.pre
  have hown : s.vm.findClass RX7 = some m.cls := findClass_of_methodNamed Bd.named
  have hlocks := Bd.notSynchronized
  have hx := Bd.exec
  have hb := Bd.bytes
  have hr := Bd.returns
  have C : CallFix p m c cX7_sell 6 s _ wsX7_sell RX7 := ⟨hx, hb, hml, hown, hts⟩
  obtain ⟨hK, hN⟩ := id G
  subst hsz
  have hD := hD0.self (sz := s.heap.size)
  generalize hAe : va_A (wB g B ++ wT cs (fun i => g (1 + i)) N ++ wP cs (fun i => g (12 + i)) P) s.heap.size = A at hD ⊢
  have hA : ∀ q : Nat, s.heap.size ≤ q → A q := fun q h => by rw [← hAe]; exact Or.inr h
  have hS : va_S A s.heap s.heap [] := va_S.rf
  have hR : RTi p l e ({ frames := 2, cells := 0, slots := 0, locals := 48 }) s m ([.ref (g 0), .int (x1), .int (x2), .int (x3)] : List Value).toArray below meth c cX7_sell (MQ below (va_Qi (fun r (u : (Nat → Int32) × Tw × Ps) => r = res.1 ∧ u = res.2) (fun u t => va_P (dC, dI) vwCl ((fun u : (Nat → Int32) × Tw × Ps => (wB g u.1 ++ wT cs (fun i => g (1 + i)) u.2.1 ++ wP cs (fun i => g (12 + i)) u.2.2)) u) t.heap ∧ va_D A ((fun u : (Nat → Int32) × Tw × Ps => (wB g u.1 ++ wT cs (fun i => g (1 + i)) u.2.1 ++ wP cs (fun i => g (12 + i)) u.2.2)) u)) A) ([.ref (g 0), .int (x1), .int (x2), .int (x3)] : List Value).toArray s 0 0 A) (dC, dI) A (fun u : (Nat → Int32) × Tw × Ps => (wB g u.1 ++ wT cs (fun i => g (1 + i)) u.2.1 ++ wP cs (fun i => g (12 + i)) u.2.2)) res := fun H locs pc ls r u dd h hP hD hS => W.iret hx hb hr (fun t ht hW => ⟨⟨r, u, rfl, by cases h; exact ⟨rfl, rfl⟩, by rw [ht]; exact hP, hD⟩, hS.F ht⟩) hS.2.2 dd
  have hl := lv_entry ([.ref (g 0), .int (x1), .int (x2), .int (x3)]) (n := 6) (Nat.le_of_ble_eq_true rfl)
  rw [lg_entry_eq]
  generalize (lg_sl ([.ref (g 0), .int (x1), .int (x2), .int (x3)]) ++ List.replicate (6 - (lg_sl ([.ref (g 0), .int (x1), .int (x2), .int (x3)])).length) Slot.unset).toArray = ls at hl ⊢
  have hl : lv_has ls 6 [(0, .ref (g 0)), (1, .int (x1)), (2, .int (x2)), (3, .int (x3))] := hl
  unfold f_X7_sell at hf
  refine lv_aload_n hx hb dX7_sell_0 rfl (lv_at hl 0 rfl) ?_
  refine va_get (D := (dC, dI)) (ci := 7) (v := .ref (g 1)) (C := RX7) (T := TX7) (N := 11) hx hb hts in_X7_sell_X7 hown hK hP 0 rfl rfl 0 (by decide) (hts (.fieldLink RX7 10 "BackLoans" "now" "LBackLoans$Town;") (by decide +kernel)) (fun _ h9 => h9) rfl dX7_sell_1 ?_
  refine lv_iload_n hx hb dX7_sell_4 rfl (lv_at hl 1 rfl) ?_
  obtain ⟨r5, hr5, hf⟩ := bn_e hf
  have hPc := hP.sub (ws' := (wT cs (fun i => g (1 + i)) N)) [1, 2, 3, 4, 5, 6, 7, 8, 9, 10, 11] rfl
  refine vp_callSi (W.runV (As := [.int (x1)]) (rest := []) C (c_X5_hasLoan l dC dI cs (fun i => g (1 + i)) N x1 r5 hr5) (cwV 1 hts gX7_sell_X5_hasLoan rfl rfl rfl (by decide +kernel) ⟨Nat.le_of_ble_eq_true rfl, Nat.le_of_ble_eq_true rfl⟩) ⟨(fun a U g mk q => ⟨q.1, q.2.1, GE.calling q.2.2⟩), va_recv hK hPc (ci := 5) (q0 := 0) rfl rfl, (fun U hU hW => ⟨rfl, by rw [hU]; exact hPc, GE.warm hW G⟩)⟩ rfl rfl hl.1 rfl (lv_room (Nat.le_of_ble_eq_true rfl)) dX7_sell_5 ⟨Nat.le_of_ble_eq_true rfl, Nat.le_of_ble_eq_true rfl⟩) (fun qr5 hqr5 => ?_)
  obtain ⟨hqr5, hnr5⟩ := hqr5
  obtain rfl := hqr5.symm
  refine lv_if_eq (tgt := 46) hx hb dX7_sell_8 (by decide) (fun c1 => ?_) (fun c1 => ?_)
  · replace hf := it_t c1 hf
    exact b_X7_sell_46 C G hA hR B N P _ _ _ (lv_sub hl [0] rfl) hP hD hS hf
  · replace hf := it_f c1 hf
    refine lv_aload_n hx hb dX7_sell_11 rfl (lv_at hl 0 rfl) ?_
    refine va_get (D := (dC, dI)) (ci := 7) (v := .ref (g 1)) (C := RX7) (T := TX7) (N := 11) hx hb hts in_X7_sell_X7 hown hK hP 0 rfl rfl 0 (by decide) (hts (.fieldLink RX7 10 "BackLoans" "now" "LBackLoans$Town;") (by decide +kernel)) (fun _ h9 => h9) rfl dX7_sell_12 ?_
    refine lv_iload_n hx hb dX7_sell_15 rfl (lv_at hl 2 rfl) ?_
    obtain ⟨r16, hr16, hf⟩ := bn_e hf
    have hPc := hP.sub (ws' := (wT cs (fun i => g (1 + i)) N)) [1, 2, 3, 4, 5, 6, 7, 8, 9, 10, 11] rfl
    refine vp_callSi (W.runV (As := [.int (x2)]) (rest := []) C (c_X5_hasPerson l dC dI cs (fun i => g (1 + i)) N x2 r16 hr16) (cwV 1 hts gX7_sell_X5_hasPerson rfl rfl rfl (by decide +kernel) ⟨Nat.le_of_ble_eq_true rfl, Nat.le_of_ble_eq_true rfl⟩) ⟨(fun a U g mk q => ⟨q.1, q.2.1, GE.calling q.2.2⟩), va_recv hK hPc (ci := 5) (q0 := 0) rfl rfl, (fun U hU hW => ⟨rfl, by rw [hU]; exact hPc, GE.warm hW G⟩)⟩ rfl rfl hl.1 rfl (lv_room (Nat.le_of_ble_eq_true rfl)) dX7_sell_16 ⟨Nat.le_of_ble_eq_true rfl, Nat.le_of_ble_eq_true rfl⟩) (fun qr16 hqr16 => ?_)
    obtain ⟨hqr16, hnr16⟩ := hqr16
    obtain rfl := hqr16.symm
    refine lv_if_eq (tgt := 46) hx hb dX7_sell_19 (by decide) (fun c2 => ?_) (fun c2 => ?_)
    · replace hf := it_t c2 hf
      exact b_X7_sell_46 C G hA hR B N P _ _ _ (lv_sub hl [0] rfl) hP hD hS hf
    · replace hf := it_f c2 hf
      refine lv_iload_n hx hb dX7_sell_22 rfl (lv_at hl 3 rfl) ?_
      refine lv_iconst (v := 0) hx hb dX7_sell_23 (by decide) ?_
      refine lv_sipush (v := 9999) hx hb dX7_sell_24 (by decide) ?_
      obtain ⟨r27, hr27, hf⟩ := bn_e hf
      have hPc := hP.sub (ws' := ([] : va_W)) [] rfl
      refine vp_callSi (W.runS (As := [.int (x3), .int ((0 : Int32)), .int ((9999 : Int32))]) (rest := []) C (c_X7_within l dC dI cs x3 (0 : Int32) (9999 : Int32) r27 hr27) (va_cwS 3 hts gX7_sell_X7_within rfl rfl rfl (by decide +kernel) ⟨Nat.le_of_ble_eq_true rfl, Nat.le_of_ble_eq_true rfl⟩) ⟨(fun a U g mk q => ⟨q.1, q.2.1, GE.calling q.2.2⟩), (fun U hU hW => ⟨rfl, by rw [hU]; exact hPc, GE.warm hW G⟩)⟩ rfl rfl hl.1 rfl (lv_room (Nat.le_of_ble_eq_true rfl)) dX7_sell_27 ⟨Nat.le_of_ble_eq_true rfl, Nat.le_of_ble_eq_true rfl⟩) (fun qr27 hqr27 => ?_)
      obtain ⟨hqr27, hnr27⟩ := hqr27
      obtain rfl := hqr27.symm
      refine lv_if_eq (tgt := 46) hx hb dX7_sell_30 (by decide) (fun c3 => ?_) (fun c3 => ?_)
      · replace hf := it_t c3 hf
        exact b_X7_sell_46 C G hA hR B N P _ _ _ (lv_sub hl [0] rfl) hP hD hS hf
      · replace hf := it_f c3 hf
        refine lv_aload_n hx hb dX7_sell_33 rfl (lv_at hl 0 rfl) ?_
        refine va_get (D := (dC, dI)) (ci := 7) (v := .ref (g 1)) (C := RX7) (T := TX7) (N := 11) hx hb hts in_X7_sell_X7 hown hK hP 0 rfl rfl 0 (by decide) (hts (.fieldLink RX7 10 "BackLoans" "now" "LBackLoans$Town;") (by decide +kernel)) (fun _ h9 => h9) rfl dX7_sell_34 ?_
        refine va_get (D := (dC, dI)) (ci := 5) (v := .ref (g 5)) (C := RX5) (T := TX5) (N := 17) hx hb hts in_X7_sell_X5 hown hK hP 1 rfl rfl 10 (by decide) (hts (.fieldLink RX7 154 "BackLoans$Town" "owner" "[I") (by decide +kernel)) (fun _ h9 => h9) rfl dX7_sell_37 ?_
        refine lv_iload_n hx hb dX7_sell_40 rfl (lv_at hl 1 rfl) ?_
        obtain ⟨hi4, hf⟩ := gi_e hf
        refine va_iald hx hb hK hP 5 0 rfl rfl hi4 dX7_sell_41 ?_
        refine lv_iload_n hx hb dX7_sell_42 rfl (lv_at hl 2 rfl) ?_
        refine lv_icmp_ne (tgt := 51) hx hb dX7_sell_43 (by decide) (fun c5 => ?_) (fun c5 => ?_)
        · replace hf := it_f c5 hf
          refine lv_aload_n hx hb dX7_sell_51 rfl (lv_at hl 0 rfl) ?_
          refine va_get (D := (dC, dI)) (ci := 7) (v := .ref (g 1)) (C := RX7) (T := TX7) (N := 11) hx hb hts in_X7_sell_X7 hown hK hP 0 rfl rfl 0 (by decide) (hts (.fieldLink RX7 10 "BackLoans" "now" "LBackLoans$Town;") (by decide +kernel)) (fun _ h9 => h9) rfl dX7_sell_52 ?_
          refine va_get (D := (dC, dI)) (ci := 5) (v := .ref (g 8)) (C := RX5) (T := TX5) (N := 17) hx hb hts in_X7_sell_X5 hown hK hP 1 rfl rfl 13 (by decide) (hts (.fieldLink RX7 150 "BackLoans$Town" "state" "[I") (by decide +kernel)) (fun _ h9 => h9) rfl dX7_sell_55 ?_
          refine lv_iload_n hx hb dX7_sell_58 rfl (lv_at hl 1 rfl) ?_
          obtain ⟨hi6, hf⟩ := gi_e hf
          refine va_iald hx hb hK hP 8 0 rfl rfl hi6 dX7_sell_59 ?_
          refine lv_if_eq (tgt := 76) hx hb dX7_sell_60 (by decide) (fun c7 => ?_) (fun c7 => ?_)
          · replace hf := it_t c7 hf
            exact b_X7_sell_76 C G hA hR x1 x2 x3 B N P _ _ _ (lv_sub hl [0, 1, 2, 3] rfl) hP hD hS hf
          · replace hf := it_f c7 hf
            refine lv_aload_n hx hb dX7_sell_63 rfl (lv_at hl 0 rfl) ?_
            refine va_get (D := (dC, dI)) (ci := 7) (v := .ref (g 1)) (C := RX7) (T := TX7) (N := 11) hx hb hts in_X7_sell_X7 hown hK hP 0 rfl rfl 0 (by decide) (hts (.fieldLink RX7 10 "BackLoans" "now" "LBackLoans$Town;") (by decide +kernel)) (fun _ h9 => h9) rfl dX7_sell_64 ?_
            refine va_get (D := (dC, dI)) (ci := 5) (v := .ref (g 8)) (C := RX5) (T := TX5) (N := 17) hx hb hts in_X7_sell_X5 hown hK hP 1 rfl rfl 13 (by decide) (hts (.fieldLink RX7 150 "BackLoans$Town" "state" "[I") (by decide +kernel)) (fun _ h9 => h9) rfl dX7_sell_67 ?_
            refine lv_iload_n hx hb dX7_sell_70 rfl (lv_at hl 1 rfl) ?_
            obtain ⟨hi8, hf⟩ := gi_e hf
            refine va_iald hx hb hK hP 8 0 rfl rfl hi8 dX7_sell_71 ?_
            refine lv_iconst (v := 2) hx hb dX7_sell_72 (by decide) ?_
            refine lv_icmp_ne (tgt := 80) hx hb dX7_sell_73 (by decide) (fun c9 => ?_) (fun c9 => ?_)
            · replace hf := it_f c9 hf
              refine lv_iconst (v := 0) hx hb dX7_sell_80 (by decide) ?_
              exact b_X7_sell_81 C G hA hR x1 x2 x3 (0 : Int32) B N P _ _ _ (lv_sub hl [0, 1, 2, 3] rfl) hP hD hS hf
            · replace hf := it_t c9 hf
              exact b_X7_sell_76 C G hA hR x1 x2 x3 B N P _ _ _ (lv_sub hl [0, 1, 2, 3] rfl) hP hD hS hf
        · replace hf := it_t c5 hf
          exact b_X7_sell_46 C G hA hR B N P _ _ _ (lv_sub hl [0] rfl) hP hD hS hf

theorem in_X7_undo_X3 : ∀ w ∈ wsX30, w ∈ wsX7_undo := by decide +kernel
theorem in_X7_undo_X7 : ∀ w ∈ wsX70, w ∈ wsX7_undo := by decide +kernel
def f_X7_undo  (B : Nat → Int32) (N : Tw) (P : Ps) : Option (Int32 × (Nat → Int32) × Tw × Ps) :=
  if 0 < P.1 then (
    bn (f_X3_goBack P N) fun r23 =>
    some ((1 : Int32), (B, r23.2, r23.1))
  ) else (
    bn (f_X7_no B) fun r11 =>
    some (r11.1, (r11.2, N, P))
  )
set_option maxHeartbeats 4000000 in
set_option maxRecDepth 100000 in
theorem c_X7_undo (l : Launch) (dC : Nat → ClassId) (dI : Nat → Nat → Nat) (cs : Nat → ClassId) (g : Nat → Nat) (sz : Nat) (B : Nat → Int32) (N : Tw) (P : Ps)  (res : Int32 × (Nat → Int32) × Tw × Ps) (hf : f_X7_undo B N P = some res) : Met l yX7_undo wsX7_undo ({ frames := 2, cells := 0, slots := 0, locals := 50 }) (va_Pc [.ref (g 0)] (fun U => U.heap.size = sz ∧ va_P (dC, dI) vwCl (wB g B ++ wT cs (fun i => g (1 + i)) N ++ wP cs (fun i => g (12 + i)) P) U.heap ∧ GE dC dI cs U ∧ va_D (fun _ => True) (wB g B ++ wT cs (fun i => g (1 + i)) N ++ wP cs (fun i => g (12 + i)) P))) (va_Qi (fun r (u : (Nat → Int32) × Tw × Ps) => r = res.1 ∧ u = res.2) (fun u t => va_P (dC, dI) vwCl ((fun u : (Nat → Int32) × Tw × Ps => (wB g u.1 ++ wT cs (fun i => g (1 + i)) u.2.1 ++ wP cs (fun i => g (12 + i)) u.2.2)) u) t.heap ∧ va_D (va_A (wB g B ++ wT cs (fun i => g (1 + i)) N ++ wP cs (fun i => g (12 + i)) P) sz) ((fun u : (Nat → Int32) × Tw × Ps => (wB g u.1 ++ wT cs (fun i => g (1 + i)) u.2.1 ++ wP cs (fun i => g (12 + i)) u.2.2)) u)) (va_A (wB g B ++ wT cs (fun i => g (1 + i)) N ++ wP cs (fun i => g (12 + i)) P) sz)) 0 0 (va_A (wB g B ++ wT cs (fun i => g (1 + i)) N ++ wP cs (fun i => g (12 + i)) P) sz) := by
  refine Met.ofW (cc := cX7_undo) (maxL := 1) (ret := (some .int)) (by decide) rfl ?_
  intro p e s m args below meth c s₁ Bd hml hv
  obtain ⟨rfl, hsz, hP, G, hD0⟩ := hv
  have hts := atoms_spec (ws := wsX7_undo) Bd.pre
  have hown : s.vm.findClass RX7 = some m.cls := findClass_of_methodNamed Bd.named
  have hlocks := Bd.notSynchronized
  have hx := Bd.exec
  have hb := Bd.bytes
  have hr := Bd.returns
  have C : CallFix p m c cX7_undo 1 s _ wsX7_undo RX7 := ⟨hx, hb, hml, hown, hts⟩
  obtain ⟨hK, hN⟩ := id G
  subst hsz
  have hD := hD0.self (sz := s.heap.size)
  generalize hAe : va_A (wB g B ++ wT cs (fun i => g (1 + i)) N ++ wP cs (fun i => g (12 + i)) P) s.heap.size = A at hD ⊢
  have hA : ∀ q : Nat, s.heap.size ≤ q → A q := fun q h => by rw [← hAe]; exact Or.inr h
  have hS : va_S A s.heap s.heap [] := va_S.rf
  have hR : RTi p l e ({ frames := 2, cells := 0, slots := 0, locals := 50 }) s m ([.ref (g 0)] : List Value).toArray below meth c cX7_undo (MQ below (va_Qi (fun r (u : (Nat → Int32) × Tw × Ps) => r = res.1 ∧ u = res.2) (fun u t => va_P (dC, dI) vwCl ((fun u : (Nat → Int32) × Tw × Ps => (wB g u.1 ++ wT cs (fun i => g (1 + i)) u.2.1 ++ wP cs (fun i => g (12 + i)) u.2.2)) u) t.heap ∧ va_D A ((fun u : (Nat → Int32) × Tw × Ps => (wB g u.1 ++ wT cs (fun i => g (1 + i)) u.2.1 ++ wP cs (fun i => g (12 + i)) u.2.2)) u)) A) ([.ref (g 0)] : List Value).toArray s 0 0 A) (dC, dI) A (fun u : (Nat → Int32) × Tw × Ps => (wB g u.1 ++ wT cs (fun i => g (1 + i)) u.2.1 ++ wP cs (fun i => g (12 + i)) u.2.2)) res := fun H locs pc ls r u dd h hP hD hS => W.iret hx hb hr (fun t ht hW => ⟨⟨r, u, rfl, by cases h; exact ⟨rfl, rfl⟩, by rw [ht]; exact hP, hD⟩, hS.F ht⟩) hS.2.2 dd
  have hl := lv_entry ([.ref (g 0)]) (n := 1) (Nat.le_of_ble_eq_true rfl)
  rw [lg_entry_eq]
  generalize (lg_sl ([.ref (g 0)]) ++ List.replicate (1 - (lg_sl ([.ref (g 0)])).length) Slot.unset).toArray = ls at hl ⊢
  have hl : lv_has ls 1 [(0, .ref (g 0))] := hl
  unfold f_X7_undo at hf
  refine lv_aload_n hx hb dX7_undo_0 rfl (lv_at hl 0 rfl) ?_
  refine va_get (D := (dC, dI)) (ci := 7) (v := .ref (g 12)) (C := RX7) (T := TX7) (N := 11) hx hb hts in_X7_undo_X7 hown hK hP 0 rfl rfl 1 (by decide) (hts (.fieldLink RX7 19 "BackLoans" "past" "LBackLoans$Past;") (by decide +kernel)) (fun _ h9 => h9) rfl dX7_undo_1 ?_
  refine va_get (D := (dC, dI)) (ci := 3) (v := .int (P.1)) (C := RX3) (T := TX3) (N := 2) hx hb hts in_X7_undo_X3 hown hK hP 12 rfl rfl 0 (by decide) (hts (.fieldLink RX7 165 "BackLoans$Past" "kept" "I") (by decide +kernel)) (fun _ h9 => h9) rfl dX7_undo_4 ?_
  refine lv_if_gt (tgt := 15) hx hb dX7_undo_7 (by decide) (fun c1 => ?_) (fun c1 => ?_)
  · replace hf := it_t c1 hf
    refine lv_aload_n hx hb dX7_undo_15 rfl (lv_at hl 0 rfl) ?_
    refine va_get (D := (dC, dI)) (ci := 7) (v := .ref (g 12)) (C := RX7) (T := TX7) (N := 11) hx hb hts in_X7_undo_X7 hown hK hP 0 rfl rfl 1 (by decide) (hts (.fieldLink RX7 19 "BackLoans" "past" "LBackLoans$Past;") (by decide +kernel)) (fun _ h9 => h9) rfl dX7_undo_16 ?_
    refine lv_aload_n hx hb dX7_undo_19 rfl (lv_at hl 0 rfl) ?_
    refine va_get (D := (dC, dI)) (ci := 7) (v := .ref (g 1)) (C := RX7) (T := TX7) (N := 11) hx hb hts in_X7_undo_X7 hown hK hP 0 rfl rfl 0 (by decide) (hts (.fieldLink RX7 10 "BackLoans" "now" "LBackLoans$Town;") (by decide +kernel)) (fun _ h9 => h9) rfl dX7_undo_20 ?_
    obtain ⟨r23, hr23, hf⟩ := bn_e hf
    have hPc := hP.sub (ws' := (wP cs (fun i => g (12 + i)) P ++ wT cs (fun i => g (1 + i)) N)) [12, 13, 1, 2, 3, 4, 5, 6, 7, 8, 9, 10, 11] rfl
    have hDc := hD.sub (ws' := (wP cs (fun i => g (12 + i)) P ++ wT cs (fun i => g (1 + i)) N)) [12, 13, 1, 2, 3, 4, 5, 6, 7, 8, 9, 10, 11] (by decide) rfl
    have hFc := va_free (wc := (wP cs (fun i => g (12 + i)) P ++ wT cs (fun i => g (1 + i)) N)) hD hS hA [12, 13, 1, 2, 3, 4, 5, 6, 7, 8, 9, 10, 11] rfl
    refine va_callv (va_runV (As := [.ref (g 1)]) (rest := []) C (c_X3_goBack l dC dI cs (fun i => g (12 + i)) (fun i => g (1 + i)) s.heap.size P N r23 hr23) (cwV 1 hts gX7_undo_X3_goBack rfl rfl rfl (by decide +kernel) ⟨Nat.le_of_ble_eq_true rfl, Nat.le_of_ble_eq_true rfl⟩) ⟨(fun a U g mk q => ⟨q.1, q.2.1, q.2.2.1, GE.calling q.2.2.2.1, q.2.2.2.2⟩), va_recv hK hPc (ci := 3) (q0 := 0) rfl rfl, (fun U hU hW => ⟨rfl, by rw [hU], by rw [hU]; exact hPc, GE.warm hW G, hDc.weaken (fun _ _ _ _ => trivial)⟩)⟩ rfl rfl hl.1 rfl (lv_room (Nat.le_of_ble_eq_true rfl)) dX7_undo_23 ⟨Nat.le_of_ble_eq_true rfl, Nat.le_of_ble_eq_true rfl⟩) hS (fun q _ h => hFc q h) hFc (fun u t H1 locs ht hvm hw hB hz1 hk1 hS => ?_)
    obtain rfl := hw.symm
    obtain ⟨hP1, hD1⟩ := hB
    rw [ht] at hP1
    obtain ⟨hP, hD⟩ := va_join (wr := [0].filterMap (fun i => ((wB g B ++ wT cs (fun i => g (1 + i)) N ++ wP cs (fun i => g (12 + i)) P))[i]?)) (w1 := (wP cs (fun i => g (12 + i)) r23.1 ++ wT cs (fun i => g (1 + i)) r23.2)) hP hD [12, 13, 1, 2, 3, 4, 5, 6, 7, 8, 9, 10, 11] [0] rfl rfl (by decide) (by decide) hk1 hFc hP1 hD1
    generalize H1 = H at hP hS ⊢
    have hP := hP.sub (ws' := (wB g B ++ wT cs (fun i => g (1 + i)) r23.2 ++ wP cs (fun i => g (12 + i)) r23.1)) [0, 3, 4, 5, 6, 7, 8, 9, 10, 11, 12, 13, 1, 2] rfl
    have hD := hD.sub (ws' := (wB g B ++ wT cs (fun i => g (1 + i)) r23.2 ++ wP cs (fun i => g (12 + i)) r23.1)) [0, 3, 4, 5, 6, 7, 8, 9, 10, 11, 12, 13, 1, 2] (by decide) rfl
    refine lv_iconst (v := 1) hx hb dX7_undo_26 (by decide) ?_
    exact hR _ _ _ _ _ _ dX7_undo_27 hf hP hD hS
  · replace hf := it_f c1 hf
    refine lv_aload_n hx hb dX7_undo_10 rfl (lv_at hl 0 rfl) ?_
    obtain ⟨r11, hr11, hf⟩ := bn_e hf
    have hPc := hP.sub (ws' := (wB g B)) [0] rfl
    have hDc := hD.sub (ws' := (wB g B)) [0] (by decide) rfl
    have hFc := va_free (wc := (wB g B)) hD hS hA [0] rfl
    refine va_calli (va_runV (As := []) (rest := []) C (c_X7_no l dC dI cs g s.heap.size B r11 hr11) (cwV 0 hts gX7_undo_X7_no rfl rfl rfl (by decide +kernel) ⟨Nat.le_of_ble_eq_true rfl, Nat.le_of_ble_eq_true rfl⟩) ⟨(fun a U g mk q => ⟨q.1, q.2.1, q.2.2.1, GE.calling q.2.2.2.1, q.2.2.2.2⟩), va_recv hK hPc (ci := 7) (q0 := 0) rfl rfl, (fun U hU hW => ⟨rfl, by rw [hU], by rw [hU]; exact hPc, GE.warm hW G, hDc.weaken (fun _ _ _ _ => trivial)⟩)⟩ rfl rfl hl.1 rfl (lv_room (Nat.le_of_ble_eq_true rfl)) dX7_undo_11 ⟨Nat.le_of_ble_eq_true rfl, Nat.le_of_ble_eq_true rfl⟩) hS (fun q _ h => hFc q h) hFc (fun q u t H1 locs ht hvm hw hB hz1 hk1 hS => ?_)
    obtain ⟨rfl, rfl⟩ := hw
    obtain ⟨hP1, hD1⟩ := hB
    rw [ht] at hP1
    obtain ⟨hP, hD⟩ := va_join (wr := [1, 2, 3, 4, 5, 6, 7, 8, 9, 10, 11, 12, 13].filterMap (fun i => ((wB g B ++ wT cs (fun i => g (1 + i)) N ++ wP cs (fun i => g (12 + i)) P))[i]?)) (w1 := (wB g r11.2)) hP hD [0] [1, 2, 3, 4, 5, 6, 7, 8, 9, 10, 11, 12, 13] rfl rfl (by decide) (by decide) hk1 hFc hP1 hD1
    generalize H1 = H at hP hS ⊢
    have hP := hP.sub (ws' := (wB g r11.2 ++ wT cs (fun i => g (1 + i)) N ++ wP cs (fun i => g (12 + i)) P)) [13, 0, 1, 2, 3, 4, 5, 6, 7, 8, 9, 10, 11, 12] rfl
    have hD := hD.sub (ws' := (wB g r11.2 ++ wT cs (fun i => g (1 + i)) N ++ wP cs (fun i => g (12 + i)) P)) [13, 0, 1, 2, 3, 4, 5, 6, 7, 8, 9, 10, 11, 12] (by decide) rfl
    exact hR _ _ _ _ _ _ dX7_undo_14 hf hP hD hS

theorem in_X7_whose_X5 : ∀ w ∈ wsX50, w ∈ wsX7_whose := by decide +kernel
theorem in_X7_whose_X7 : ∀ w ∈ wsX70, w ∈ wsX7_whose := by decide +kernel
def f_X7_whose (x1 : Int32) (x2 : Int32) (B : Nat → Int32) (N : Tw) : Option (Int32 × (Nat → Int32)) :=
  bn (f_X5_hasPerson x1 N) fun r5 =>
  if r5 = 0 then (
    bn (f_X7_bad B) fun r12 =>
    some (r12.1, r12.2)
  ) else (
    if x2 = 0 then (
      gi (x1) 6 <|
      some (((N.2 0) (x1).toNatClampNeg), B)
    ) else (
    if x2 = 1 then (
      gi (x1) 6 <|
      some (((N.2 1) (x1).toNatClampNeg), B)
    ) else (
    if x2 = 2 then (
      gi (x1) 6 <|
      some (((N.2 2) (x1).toNatClampNeg), B)
    ) else (
    bn (f_X7_bad B) fun r75 =>
    some (r75.1, r75.2)
    )))
  )
set_option maxHeartbeats 4000000 in
set_option maxRecDepth 100000 in
theorem c_X7_whose (l : Launch) (dC : Nat → ClassId) (dI : Nat → Nat → Nat) (cs : Nat → ClassId) (g : Nat → Nat) (sz : Nat) (B : Nat → Int32) (N : Tw) (x1 : Int32) (x2 : Int32) (res : Int32 × (Nat → Int32)) (hf : f_X7_whose x1 x2 B N = some res) : Met l yX7_whose wsX7_whose ({ frames := 1, cells := 0, slots := 0, locals := 21 }) (va_Pc [.ref (g 0), .int (x1), .int (x2)] (fun U => U.heap.size = sz ∧ va_P (dC, dI) vwCl (wB g B ++ wT cs (fun i => g (1 + i)) N) U.heap ∧ GE dC dI cs U ∧ va_D (fun _ => True) (wB g B ++ wT cs (fun i => g (1 + i)) N))) (va_Qi (fun r (u : (Nat → Int32)) => r = res.1 ∧ u = res.2) (fun u t => va_P (dC, dI) vwCl ((fun u : (Nat → Int32) => (wB g u ++ wT cs (fun i => g (1 + i)) N)) u) t.heap ∧ va_D (va_A (wB g B ++ wT cs (fun i => g (1 + i)) N) sz) ((fun u : (Nat → Int32) => (wB g u ++ wT cs (fun i => g (1 + i)) N)) u)) (va_A (wB g B ++ wT cs (fun i => g (1 + i)) N) sz)) 0 0 (va_A (wB g B ++ wT cs (fun i => g (1 + i)) N) sz) := by
  refine Met.ofW (cc := cX7_whose) (maxL := 3) (ret := (some .int)) (by decide) rfl ?_
  intro p e s m args below meth c s₁ Bd hml hv
  obtain ⟨rfl, hsz, hP, G, hD0⟩ := hv
  have hts := atoms_spec (ws := wsX7_whose) Bd.pre
  have hown : s.vm.findClass RX7 = some m.cls := findClass_of_methodNamed Bd.named
  have hlocks := Bd.notSynchronized
  have hx := Bd.exec
  have hb := Bd.bytes
  have hr := Bd.returns
  have C : CallFix p m c cX7_whose 3 s _ wsX7_whose RX7 := ⟨hx, hb, hml, hown, hts⟩
  obtain ⟨hK, hN⟩ := id G
  subst hsz
  have hD := hD0.self (sz := s.heap.size)
  generalize hAe : va_A (wB g B ++ wT cs (fun i => g (1 + i)) N) s.heap.size = A at hD ⊢
  have hA : ∀ q : Nat, s.heap.size ≤ q → A q := fun q h => by rw [← hAe]; exact Or.inr h
  have hS : va_S A s.heap s.heap [] := va_S.rf
  have hR : RTi p l e ({ frames := 1, cells := 0, slots := 0, locals := 21 }) s m ([.ref (g 0), .int (x1), .int (x2)] : List Value).toArray below meth c cX7_whose (MQ below (va_Qi (fun r (u : (Nat → Int32)) => r = res.1 ∧ u = res.2) (fun u t => va_P (dC, dI) vwCl ((fun u : (Nat → Int32) => (wB g u ++ wT cs (fun i => g (1 + i)) N)) u) t.heap ∧ va_D A ((fun u : (Nat → Int32) => (wB g u ++ wT cs (fun i => g (1 + i)) N)) u)) A) ([.ref (g 0), .int (x1), .int (x2)] : List Value).toArray s 0 0 A) (dC, dI) A (fun u : (Nat → Int32) => (wB g u ++ wT cs (fun i => g (1 + i)) N)) res := fun H locs pc ls r u dd h hP hD hS => W.iret hx hb hr (fun t ht hW => ⟨⟨r, u, rfl, by cases h; exact ⟨rfl, rfl⟩, by rw [ht]; exact hP, hD⟩, hS.F ht⟩) hS.2.2 dd
  have hl := lv_entry ([.ref (g 0), .int (x1), .int (x2)]) (n := 3) (Nat.le_of_ble_eq_true rfl)
  rw [lg_entry_eq]
  generalize (lg_sl ([.ref (g 0), .int (x1), .int (x2)]) ++ List.replicate (3 - (lg_sl ([.ref (g 0), .int (x1), .int (x2)])).length) Slot.unset).toArray = ls at hl ⊢
  have hl : lv_has ls 3 [(0, .ref (g 0)), (1, .int (x1)), (2, .int (x2))] := hl
  unfold f_X7_whose at hf
  refine lv_aload_n hx hb dX7_whose_0 rfl (lv_at hl 0 rfl) ?_
  refine va_get (D := (dC, dI)) (ci := 7) (v := .ref (g 1)) (C := RX7) (T := TX7) (N := 11) hx hb hts in_X7_whose_X7 hown hK hP 0 rfl rfl 0 (by decide) (hts (.fieldLink RX7 10 "BackLoans" "now" "LBackLoans$Town;") (by decide +kernel)) (fun _ h9 => h9) rfl dX7_whose_1 ?_
  refine lv_iload_n hx hb dX7_whose_4 rfl (lv_at hl 1 rfl) ?_
  obtain ⟨r5, hr5, hf⟩ := bn_e hf
  have hPc := hP.sub (ws' := (wT cs (fun i => g (1 + i)) N)) [1, 2, 3, 4, 5, 6, 7, 8, 9, 10, 11] rfl
  refine vp_callSi (W.runV (As := [.int (x1)]) (rest := []) C (c_X5_hasPerson l dC dI cs (fun i => g (1 + i)) N x1 r5 hr5) (cwV 1 hts gX7_whose_X5_hasPerson rfl rfl rfl (by decide +kernel) ⟨Nat.le_of_ble_eq_true rfl, Nat.le_of_ble_eq_true rfl⟩) ⟨(fun a U g mk q => ⟨q.1, q.2.1, GE.calling q.2.2⟩), va_recv hK hPc (ci := 5) (q0 := 0) rfl rfl, (fun U hU hW => ⟨rfl, by rw [hU]; exact hPc, GE.warm hW G⟩)⟩ rfl rfl hl.1 rfl (lv_room (Nat.le_of_ble_eq_true rfl)) dX7_whose_5 ⟨Nat.le_of_ble_eq_true rfl, Nat.le_of_ble_eq_true rfl⟩) (fun qr5 hqr5 => ?_)
  obtain ⟨hqr5, hnr5⟩ := hqr5
  obtain rfl := hqr5.symm
  refine lv_if_ne (tgt := 16) hx hb dX7_whose_8 (by decide) (fun c1 => ?_) (fun c1 => ?_)
  · replace hf := it_f c1 hf
    refine lv_iload_n hx hb dX7_whose_16 rfl (lv_at hl 2 rfl) ?_
    by_cases c2 : x2 = 0
    · replace hf := it_t c2 hf
      refine lv_tableIn (tgt := 44) hx hb dX7_whose_17 (by rw [c2]; decide) (by rw [c2]; decide) (by rw [c2]; rfl) (by decide) ?_
      refine lv_aload_n hx hb dX7_whose_44 rfl (lv_at hl 0 rfl) ?_
      refine va_get (D := (dC, dI)) (ci := 7) (v := .ref (g 1)) (C := RX7) (T := TX7) (N := 11) hx hb hts in_X7_whose_X7 hown hK hP 0 rfl rfl 0 (by decide) (hts (.fieldLink RX7 10 "BackLoans" "now" "LBackLoans$Town;") (by decide +kernel)) (fun _ h9 => h9) rfl dX7_whose_45 ?_
      refine va_get (D := (dC, dI)) (ci := 5) (v := .ref (g 2)) (C := RX5) (T := TX5) (N := 17) hx hb hts in_X7_whose_X5 hown hK hP 1 rfl rfl 7 (by decide) (hts (.fieldLink RX7 171 "BackLoans$Town" "kind" "[I") (by decide +kernel)) (fun _ h9 => h9) rfl dX7_whose_48 ?_
      refine lv_iload_n hx hb dX7_whose_51 rfl (lv_at hl 1 rfl) ?_
      obtain ⟨hi3, hf⟩ := gi_e hf
      refine va_iald hx hb hK hP 2 0 rfl rfl hi3 dX7_whose_52 ?_
      exact hR _ _ _ _ _ _ dX7_whose_53 hf hP hD hS
    replace hf := it_f c2 hf
    by_cases c4 : x2 = 1
    · replace hf := it_t c4 hf
      refine lv_tableIn (tgt := 54) hx hb dX7_whose_17 (by rw [c4]; decide) (by rw [c4]; decide) (by rw [c4]; rfl) (by decide) ?_
      refine lv_aload_n hx hb dX7_whose_54 rfl (lv_at hl 0 rfl) ?_
      refine va_get (D := (dC, dI)) (ci := 7) (v := .ref (g 1)) (C := RX7) (T := TX7) (N := 11) hx hb hts in_X7_whose_X7 hown hK hP 0 rfl rfl 0 (by decide) (hts (.fieldLink RX7 10 "BackLoans" "now" "LBackLoans$Town;") (by decide +kernel)) (fun _ h9 => h9) rfl dX7_whose_55 ?_
      refine va_get (D := (dC, dI)) (ci := 5) (v := .ref (g 3)) (C := RX5) (T := TX5) (N := 17) hx hb hts in_X7_whose_X5 hown hK hP 1 rfl rfl 8 (by decide) (hts (.fieldLink RX7 174 "BackLoans$Town" "means" "[I") (by decide +kernel)) (fun _ h9 => h9) rfl dX7_whose_58 ?_
      refine lv_iload_n hx hb dX7_whose_61 rfl (lv_at hl 1 rfl) ?_
      obtain ⟨hi5, hf⟩ := gi_e hf
      refine va_iald hx hb hK hP 3 0 rfl rfl hi5 dX7_whose_62 ?_
      exact hR _ _ _ _ _ _ dX7_whose_63 hf hP hD hS
    replace hf := it_f c4 hf
    by_cases c6 : x2 = 2
    · replace hf := it_t c6 hf
      refine lv_tableIn (tgt := 64) hx hb dX7_whose_17 (by rw [c6]; decide) (by rw [c6]; decide) (by rw [c6]; rfl) (by decide) ?_
      refine lv_aload_n hx hb dX7_whose_64 rfl (lv_at hl 0 rfl) ?_
      refine va_get (D := (dC, dI)) (ci := 7) (v := .ref (g 1)) (C := RX7) (T := TX7) (N := 11) hx hb hts in_X7_whose_X7 hown hK hP 0 rfl rfl 0 (by decide) (hts (.fieldLink RX7 10 "BackLoans" "now" "LBackLoans$Town;") (by decide +kernel)) (fun _ h9 => h9) rfl dX7_whose_65 ?_
      refine va_get (D := (dC, dI)) (ci := 5) (v := .ref (g 4)) (C := RX5) (T := TX5) (N := 17) hx hb hts in_X7_whose_X5 hown hK hP 1 rfl rfl 9 (by decide) (hts (.fieldLink RX7 157 "BackLoans$Town" "purse" "[I") (by decide +kernel)) (fun _ h9 => h9) rfl dX7_whose_68 ?_
      refine lv_iload_n hx hb dX7_whose_71 rfl (lv_at hl 1 rfl) ?_
      obtain ⟨hi7, hf⟩ := gi_e hf
      refine va_iald hx hb hK hP 4 0 rfl rfl hi7 dX7_whose_72 ?_
      exact hR _ _ _ _ _ _ dX7_whose_73 hf hP hD hS
    replace hf := it_f c6 hf
    have nc2 := lv_neT (a := 0) c2 (by decide)
    have nc4 := lv_neT (a := 1) c4 (by decide)
    have nc6 := lv_neT (a := 2) c6 (by decide)
    refine lv_tableOut (tgt := 74) hx hb dX7_whose_17 (by omega) (by decide) ?_
    refine lv_aload_n hx hb dX7_whose_74 rfl (lv_at hl 0 rfl) ?_
    obtain ⟨r75, hr75, hf⟩ := bn_e hf
    have hPc := hP.sub (ws' := (wB g B)) [0] rfl
    have hDc := hD.sub (ws' := (wB g B)) [0] (by decide) rfl
    have hFc := va_free (wc := (wB g B)) hD hS hA [0] rfl
    refine va_calli (va_runV (As := []) (rest := []) C (c_X7_bad l dC dI cs g s.heap.size B r75 hr75) (cwV 0 hts gX7_whose_X7_bad rfl rfl rfl (by decide +kernel) ⟨Nat.le_of_ble_eq_true rfl, Nat.le_of_ble_eq_true rfl⟩) ⟨(fun a U g mk q => ⟨q.1, q.2.1, q.2.2.1, GE.calling q.2.2.2.1, q.2.2.2.2⟩), va_recv hK hPc (ci := 7) (q0 := 0) rfl rfl, (fun U hU hW => ⟨rfl, by rw [hU], by rw [hU]; exact hPc, GE.warm hW G, hDc.weaken (fun _ _ _ _ => trivial)⟩)⟩ rfl rfl hl.1 rfl (lv_room (Nat.le_of_ble_eq_true rfl)) dX7_whose_75 ⟨Nat.le_of_ble_eq_true rfl, Nat.le_of_ble_eq_true rfl⟩) hS (fun q _ h => hFc q h) hFc (fun q u t H1 locs ht hvm hw hB hz1 hk1 hS => ?_)
    obtain ⟨rfl, rfl⟩ := hw
    obtain ⟨hP1, hD1⟩ := hB
    rw [ht] at hP1
    obtain ⟨hP, hD⟩ := va_join (wr := [1, 2, 3, 4, 5, 6, 7, 8, 9, 10, 11].filterMap (fun i => ((wB g B ++ wT cs (fun i => g (1 + i)) N))[i]?)) (w1 := (wB g r75.2)) hP hD [0] [1, 2, 3, 4, 5, 6, 7, 8, 9, 10, 11] rfl rfl (by decide) (by decide) hk1 hFc hP1 hD1
    generalize H1 = H at hP hS ⊢
    have hP := hP.sub (ws' := (wB g r75.2 ++ wT cs (fun i => g (1 + i)) N)) [11, 0, 1, 2, 3, 4, 5, 6, 7, 8, 9, 10] rfl
    have hD := hD.sub (ws' := (wB g r75.2 ++ wT cs (fun i => g (1 + i)) N)) [11, 0, 1, 2, 3, 4, 5, 6, 7, 8, 9, 10] (by decide) rfl
    exact hR _ _ _ _ _ _ dX7_whose_78 hf hP hD hS
  · replace hf := it_t c1 hf
    refine lv_aload_n hx hb dX7_whose_11 rfl (lv_at hl 0 rfl) ?_
    obtain ⟨r12, hr12, hf⟩ := bn_e hf
    have hPc := hP.sub (ws' := (wB g B)) [0] rfl
    have hDc := hD.sub (ws' := (wB g B)) [0] (by decide) rfl
    have hFc := va_free (wc := (wB g B)) hD hS hA [0] rfl
    refine va_calli (va_runV (As := []) (rest := []) C (c_X7_bad l dC dI cs g s.heap.size B r12 hr12) (cwV 0 hts gX7_whose_X7_bad rfl rfl rfl (by decide +kernel) ⟨Nat.le_of_ble_eq_true rfl, Nat.le_of_ble_eq_true rfl⟩) ⟨(fun a U g mk q => ⟨q.1, q.2.1, q.2.2.1, GE.calling q.2.2.2.1, q.2.2.2.2⟩), va_recv hK hPc (ci := 7) (q0 := 0) rfl rfl, (fun U hU hW => ⟨rfl, by rw [hU], by rw [hU]; exact hPc, GE.warm hW G, hDc.weaken (fun _ _ _ _ => trivial)⟩)⟩ rfl rfl hl.1 rfl (lv_room (Nat.le_of_ble_eq_true rfl)) dX7_whose_12 ⟨Nat.le_of_ble_eq_true rfl, Nat.le_of_ble_eq_true rfl⟩) hS (fun q _ h => hFc q h) hFc (fun q u t H1 locs ht hvm hw hB hz1 hk1 hS => ?_)
    obtain ⟨rfl, rfl⟩ := hw
    obtain ⟨hP1, hD1⟩ := hB
    rw [ht] at hP1
    obtain ⟨hP, hD⟩ := va_join (wr := [1, 2, 3, 4, 5, 6, 7, 8, 9, 10, 11].filterMap (fun i => ((wB g B ++ wT cs (fun i => g (1 + i)) N))[i]?)) (w1 := (wB g r12.2)) hP hD [0] [1, 2, 3, 4, 5, 6, 7, 8, 9, 10, 11] rfl rfl (by decide) (by decide) hk1 hFc hP1 hD1
    generalize H1 = H at hP hS ⊢
    have hP := hP.sub (ws' := (wB g r12.2 ++ wT cs (fun i => g (1 + i)) N)) [11, 0, 1, 2, 3, 4, 5, 6, 7, 8, 9, 10] rfl
    have hD := hD.sub (ws' := (wB g r12.2 ++ wT cs (fun i => g (1 + i)) N)) [11, 0, 1, 2, 3, 4, 5, 6, 7, 8, 9, 10] (by decide) rfl
    exact hR _ _ _ _ _ _ dX7_whose_15 hf hP hD hS

theorem in_X7_about_X5 : ∀ w ∈ wsX50, w ∈ wsX7_about := by decide +kernel
theorem in_X7_about_X7 : ∀ w ∈ wsX70, w ∈ wsX7_about := by decide +kernel
def f_X7_about (x1 : Int32) (x2 : Int32) (B : Nat → Int32) (N : Tw) : Option (Int32 × (Nat → Int32)) :=
  bn (f_X5_hasLoan x1 N) fun r5 =>
  if r5 = 0 then (
    bn (f_X7_bad B) fun r12 =>
    some (r12.1, r12.2)
  ) else (
    if x2 = 0 then (
      gi (x1) 8 <|
      some (((N.2 3) (x1).toNatClampNeg), B)
    ) else (
    if x2 = 1 then (
      gi (x1) 8 <|
      some (((N.2 4) (x1).toNatClampNeg), B)
    ) else (
    if x2 = 2 then (
      gi (x1) 8 <|
      some (((N.2 5) (x1).toNatClampNeg), B)
    ) else (
    if x2 = 3 then (
      gi (x1) 8 <|
      some (((N.2 6) (x1).toNatClampNeg), B)
    ) else (
    if x2 = 4 then (
      gi (x1) 8 <|
      some (((N.2 7) (x1).toNatClampNeg), B)
    ) else (
    if x2 = 5 then (
      bn (f_X5_wholeOf x1 N) fun r111 =>
      some (r111, B)
    ) else (
    bn (f_X7_bad B) fun r116 =>
    some (r116.1, r116.2)
    ))))))
  )
set_option maxHeartbeats 4000000 in
set_option maxRecDepth 100000 in
theorem c_X7_about (l : Launch) (dC : Nat → ClassId) (dI : Nat → Nat → Nat) (cs : Nat → ClassId) (g : Nat → Nat) (sz : Nat) (B : Nat → Int32) (N : Tw) (x1 : Int32) (x2 : Int32) (res : Int32 × (Nat → Int32)) (hf : f_X7_about x1 x2 B N = some res) : Met l yX7_about wsX7_about ({ frames := 2, cells := 0, slots := 0, locals := 43 }) (va_Pc [.ref (g 0), .int (x1), .int (x2)] (fun U => U.heap.size = sz ∧ va_P (dC, dI) vwCl (wB g B ++ wT cs (fun i => g (1 + i)) N) U.heap ∧ GE dC dI cs U ∧ va_D (fun _ => True) (wB g B ++ wT cs (fun i => g (1 + i)) N))) (va_Qi (fun r (u : (Nat → Int32)) => r = res.1 ∧ u = res.2) (fun u t => va_P (dC, dI) vwCl ((fun u : (Nat → Int32) => (wB g u ++ wT cs (fun i => g (1 + i)) N)) u) t.heap ∧ va_D (va_A (wB g B ++ wT cs (fun i => g (1 + i)) N) sz) ((fun u : (Nat → Int32) => (wB g u ++ wT cs (fun i => g (1 + i)) N)) u)) (va_A (wB g B ++ wT cs (fun i => g (1 + i)) N) sz)) 0 0 (va_A (wB g B ++ wT cs (fun i => g (1 + i)) N) sz) := by
  refine Met.ofW (cc := cX7_about) (maxL := 3) (ret := (some .int)) (by decide) rfl ?_
  intro p e s m args below meth c s₁ Bd hml hv
  obtain ⟨rfl, hsz, hP, G, hD0⟩ := hv
  have hts := atoms_spec (ws := wsX7_about) Bd.pre
  have hown : s.vm.findClass RX7 = some m.cls := findClass_of_methodNamed Bd.named
  have hlocks := Bd.notSynchronized
  have hx := Bd.exec
  have hb := Bd.bytes
  have hr := Bd.returns
  have C : CallFix p m c cX7_about 3 s _ wsX7_about RX7 := ⟨hx, hb, hml, hown, hts⟩
  obtain ⟨hK, hN⟩ := id G
  subst hsz
  have hD := hD0.self (sz := s.heap.size)
  generalize hAe : va_A (wB g B ++ wT cs (fun i => g (1 + i)) N) s.heap.size = A at hD ⊢
  have hA : ∀ q : Nat, s.heap.size ≤ q → A q := fun q h => by rw [← hAe]; exact Or.inr h
  have hS : va_S A s.heap s.heap [] := va_S.rf
  have hR : RTi p l e ({ frames := 2, cells := 0, slots := 0, locals := 43 }) s m ([.ref (g 0), .int (x1), .int (x2)] : List Value).toArray below meth c cX7_about (MQ below (va_Qi (fun r (u : (Nat → Int32)) => r = res.1 ∧ u = res.2) (fun u t => va_P (dC, dI) vwCl ((fun u : (Nat → Int32) => (wB g u ++ wT cs (fun i => g (1 + i)) N)) u) t.heap ∧ va_D A ((fun u : (Nat → Int32) => (wB g u ++ wT cs (fun i => g (1 + i)) N)) u)) A) ([.ref (g 0), .int (x1), .int (x2)] : List Value).toArray s 0 0 A) (dC, dI) A (fun u : (Nat → Int32) => (wB g u ++ wT cs (fun i => g (1 + i)) N)) res := fun H locs pc ls r u dd h hP hD hS => W.iret hx hb hr (fun t ht hW => ⟨⟨r, u, rfl, by cases h; exact ⟨rfl, rfl⟩, by rw [ht]; exact hP, hD⟩, hS.F ht⟩) hS.2.2 dd
  have hl := lv_entry ([.ref (g 0), .int (x1), .int (x2)]) (n := 3) (Nat.le_of_ble_eq_true rfl)
  rw [lg_entry_eq]
  generalize (lg_sl ([.ref (g 0), .int (x1), .int (x2)]) ++ List.replicate (3 - (lg_sl ([.ref (g 0), .int (x1), .int (x2)])).length) Slot.unset).toArray = ls at hl ⊢
  have hl : lv_has ls 3 [(0, .ref (g 0)), (1, .int (x1)), (2, .int (x2))] := hl
  unfold f_X7_about at hf
  refine lv_aload_n hx hb dX7_about_0 rfl (lv_at hl 0 rfl) ?_
  refine va_get (D := (dC, dI)) (ci := 7) (v := .ref (g 1)) (C := RX7) (T := TX7) (N := 11) hx hb hts in_X7_about_X7 hown hK hP 0 rfl rfl 0 (by decide) (hts (.fieldLink RX7 10 "BackLoans" "now" "LBackLoans$Town;") (by decide +kernel)) (fun _ h9 => h9) rfl dX7_about_1 ?_
  refine lv_iload_n hx hb dX7_about_4 rfl (lv_at hl 1 rfl) ?_
  obtain ⟨r5, hr5, hf⟩ := bn_e hf
  have hPc := hP.sub (ws' := (wT cs (fun i => g (1 + i)) N)) [1, 2, 3, 4, 5, 6, 7, 8, 9, 10, 11] rfl
  refine vp_callSi (W.runV (As := [.int (x1)]) (rest := []) C (c_X5_hasLoan l dC dI cs (fun i => g (1 + i)) N x1 r5 hr5) (cwV 1 hts gX7_about_X5_hasLoan rfl rfl rfl (by decide +kernel) ⟨Nat.le_of_ble_eq_true rfl, Nat.le_of_ble_eq_true rfl⟩) ⟨(fun a U g mk q => ⟨q.1, q.2.1, GE.calling q.2.2⟩), va_recv hK hPc (ci := 5) (q0 := 0) rfl rfl, (fun U hU hW => ⟨rfl, by rw [hU]; exact hPc, GE.warm hW G⟩)⟩ rfl rfl hl.1 rfl (lv_room (Nat.le_of_ble_eq_true rfl)) dX7_about_5 ⟨Nat.le_of_ble_eq_true rfl, Nat.le_of_ble_eq_true rfl⟩) (fun qr5 hqr5 => ?_)
  obtain ⟨hqr5, hnr5⟩ := hqr5
  obtain rfl := hqr5.symm
  refine lv_if_ne (tgt := 16) hx hb dX7_about_8 (by decide) (fun c1 => ?_) (fun c1 => ?_)
  · replace hf := it_f c1 hf
    refine lv_iload_n hx hb dX7_about_16 rfl (lv_at hl 2 rfl) ?_
    by_cases c2 : x2 = 0
    · replace hf := it_t c2 hf
      refine lv_tableIn (tgt := 56) hx hb dX7_about_17 (by rw [c2]; decide) (by rw [c2]; decide) (by rw [c2]; rfl) (by decide) ?_
      refine lv_aload_n hx hb dX7_about_56 rfl (lv_at hl 0 rfl) ?_
      refine va_get (D := (dC, dI)) (ci := 7) (v := .ref (g 1)) (C := RX7) (T := TX7) (N := 11) hx hb hts in_X7_about_X7 hown hK hP 0 rfl rfl 0 (by decide) (hts (.fieldLink RX7 10 "BackLoans" "now" "LBackLoans$Town;") (by decide +kernel)) (fun _ h9 => h9) rfl dX7_about_57 ?_
      refine va_get (D := (dC, dI)) (ci := 5) (v := .ref (g 5)) (C := RX5) (T := TX5) (N := 17) hx hb hts in_X7_about_X5 hown hK hP 1 rfl rfl 10 (by decide) (hts (.fieldLink RX7 154 "BackLoans$Town" "owner" "[I") (by decide +kernel)) (fun _ h9 => h9) rfl dX7_about_60 ?_
      refine lv_iload_n hx hb dX7_about_63 rfl (lv_at hl 1 rfl) ?_
      obtain ⟨hi3, hf⟩ := gi_e hf
      refine va_iald hx hb hK hP 5 0 rfl rfl hi3 dX7_about_64 ?_
      exact hR _ _ _ _ _ _ dX7_about_65 hf hP hD hS
    replace hf := it_f c2 hf
    by_cases c4 : x2 = 1
    · replace hf := it_t c4 hf
      refine lv_tableIn (tgt := 66) hx hb dX7_about_17 (by rw [c4]; decide) (by rw [c4]; decide) (by rw [c4]; rfl) (by decide) ?_
      refine lv_aload_n hx hb dX7_about_66 rfl (lv_at hl 0 rfl) ?_
      refine va_get (D := (dC, dI)) (ci := 7) (v := .ref (g 1)) (C := RX7) (T := TX7) (N := 11) hx hb hts in_X7_about_X7 hown hK hP 0 rfl rfl 0 (by decide) (hts (.fieldLink RX7 10 "BackLoans" "now" "LBackLoans$Town;") (by decide +kernel)) (fun _ h9 => h9) rfl dX7_about_67 ?_
      refine va_get (D := (dC, dI)) (ci := 5) (v := .ref (g 6)) (C := RX5) (T := TX5) (N := 17) hx hb hts in_X7_about_X5 hown hK hP 1 rfl rfl 11 (by decide) (hts (.fieldLink RX7 177 "BackLoans$Town" "pence" "[I") (by decide +kernel)) (fun _ h9 => h9) rfl dX7_about_70 ?_
      refine lv_iload_n hx hb dX7_about_73 rfl (lv_at hl 1 rfl) ?_
      obtain ⟨hi5, hf⟩ := gi_e hf
      refine va_iald hx hb hK hP 6 0 rfl rfl hi5 dX7_about_74 ?_
      exact hR _ _ _ _ _ _ dX7_about_75 hf hP hD hS
    replace hf := it_f c4 hf
    by_cases c6 : x2 = 2
    · replace hf := it_t c6 hf
      refine lv_tableIn (tgt := 76) hx hb dX7_about_17 (by rw [c6]; decide) (by rw [c6]; decide) (by rw [c6]; rfl) (by decide) ?_
      refine lv_aload_n hx hb dX7_about_76 rfl (lv_at hl 0 rfl) ?_
      refine va_get (D := (dC, dI)) (ci := 7) (v := .ref (g 1)) (C := RX7) (T := TX7) (N := 11) hx hb hts in_X7_about_X7 hown hK hP 0 rfl rfl 0 (by decide) (hts (.fieldLink RX7 10 "BackLoans" "now" "LBackLoans$Town;") (by decide +kernel)) (fun _ h9 => h9) rfl dX7_about_77 ?_
      refine va_get (D := (dC, dI)) (ci := 5) (v := .ref (g 7)) (C := RX5) (T := TX5) (N := 17) hx hb hts in_X7_about_X5 hown hK hP 1 rfl rfl 12 (by decide) (hts (.fieldLink RX7 180 "BackLoans$Town" "times" "[I") (by decide +kernel)) (fun _ h9 => h9) rfl dX7_about_80 ?_
      refine lv_iload_n hx hb dX7_about_83 rfl (lv_at hl 1 rfl) ?_
      obtain ⟨hi7, hf⟩ := gi_e hf
      refine va_iald hx hb hK hP 7 0 rfl rfl hi7 dX7_about_84 ?_
      exact hR _ _ _ _ _ _ dX7_about_85 hf hP hD hS
    replace hf := it_f c6 hf
    by_cases c8 : x2 = 3
    · replace hf := it_t c8 hf
      refine lv_tableIn (tgt := 86) hx hb dX7_about_17 (by rw [c8]; decide) (by rw [c8]; decide) (by rw [c8]; rfl) (by decide) ?_
      refine lv_aload_n hx hb dX7_about_86 rfl (lv_at hl 0 rfl) ?_
      refine va_get (D := (dC, dI)) (ci := 7) (v := .ref (g 1)) (C := RX7) (T := TX7) (N := 11) hx hb hts in_X7_about_X7 hown hK hP 0 rfl rfl 0 (by decide) (hts (.fieldLink RX7 10 "BackLoans" "now" "LBackLoans$Town;") (by decide +kernel)) (fun _ h9 => h9) rfl dX7_about_87 ?_
      refine va_get (D := (dC, dI)) (ci := 5) (v := .ref (g 8)) (C := RX5) (T := TX5) (N := 17) hx hb hts in_X7_about_X5 hown hK hP 1 rfl rfl 13 (by decide) (hts (.fieldLink RX7 150 "BackLoans$Town" "state" "[I") (by decide +kernel)) (fun _ h9 => h9) rfl dX7_about_90 ?_
      refine lv_iload_n hx hb dX7_about_93 rfl (lv_at hl 1 rfl) ?_
      obtain ⟨hi9, hf⟩ := gi_e hf
      refine va_iald hx hb hK hP 8 0 rfl rfl hi9 dX7_about_94 ?_
      exact hR _ _ _ _ _ _ dX7_about_95 hf hP hD hS
    replace hf := it_f c8 hf
    by_cases c10 : x2 = 4
    · replace hf := it_t c10 hf
      refine lv_tableIn (tgt := 96) hx hb dX7_about_17 (by rw [c10]; decide) (by rw [c10]; decide) (by rw [c10]; rfl) (by decide) ?_
      refine lv_aload_n hx hb dX7_about_96 rfl (lv_at hl 0 rfl) ?_
      refine va_get (D := (dC, dI)) (ci := 7) (v := .ref (g 1)) (C := RX7) (T := TX7) (N := 11) hx hb hts in_X7_about_X7 hown hK hP 0 rfl rfl 0 (by decide) (hts (.fieldLink RX7 10 "BackLoans" "now" "LBackLoans$Town;") (by decide +kernel)) (fun _ h9 => h9) rfl dX7_about_97 ?_
      refine va_get (D := (dC, dI)) (ci := 5) (v := .ref (g 9)) (C := RX5) (T := TX5) (N := 17) hx hb hts in_X7_about_X5 hown hK hP 1 rfl rfl 14 (by decide) (hts (.fieldLink RX7 183 "BackLoans$Town" "given" "[I") (by decide +kernel)) (fun _ h9 => h9) rfl dX7_about_100 ?_
      refine lv_iload_n hx hb dX7_about_103 rfl (lv_at hl 1 rfl) ?_
      obtain ⟨hi11, hf⟩ := gi_e hf
      refine va_iald hx hb hK hP 9 0 rfl rfl hi11 dX7_about_104 ?_
      exact hR _ _ _ _ _ _ dX7_about_105 hf hP hD hS
    replace hf := it_f c10 hf
    by_cases c12 : x2 = 5
    · replace hf := it_t c12 hf
      refine lv_tableIn (tgt := 106) hx hb dX7_about_17 (by rw [c12]; decide) (by rw [c12]; decide) (by rw [c12]; rfl) (by decide) ?_
      refine lv_aload_n hx hb dX7_about_106 rfl (lv_at hl 0 rfl) ?_
      refine va_get (D := (dC, dI)) (ci := 7) (v := .ref (g 1)) (C := RX7) (T := TX7) (N := 11) hx hb hts in_X7_about_X7 hown hK hP 0 rfl rfl 0 (by decide) (hts (.fieldLink RX7 10 "BackLoans" "now" "LBackLoans$Town;") (by decide +kernel)) (fun _ h9 => h9) rfl dX7_about_107 ?_
      refine lv_iload_n hx hb dX7_about_110 rfl (lv_at hl 1 rfl) ?_
      obtain ⟨r111, hr111, hf⟩ := bn_e hf
      have hPc := hP.sub (ws' := (wT cs (fun i => g (1 + i)) N)) [1, 2, 3, 4, 5, 6, 7, 8, 9, 10, 11] rfl
      refine vp_callSi (W.runV (As := [.int (x1)]) (rest := []) C (c_X5_wholeOf l dC dI cs (fun i => g (1 + i)) N x1 r111 hr111) (cwV 1 hts gX7_about_X5_wholeOf rfl rfl rfl (by decide +kernel) ⟨Nat.le_of_ble_eq_true rfl, Nat.le_of_ble_eq_true rfl⟩) ⟨(fun a U g mk q => ⟨q.1, q.2.1, GE.calling q.2.2⟩), va_recv hK hPc (ci := 5) (q0 := 0) rfl rfl, (fun U hU hW => ⟨rfl, by rw [hU]; exact hPc, GE.warm hW G⟩)⟩ rfl rfl hl.1 rfl (lv_room (Nat.le_of_ble_eq_true rfl)) dX7_about_111 ⟨Nat.le_of_ble_eq_true rfl, Nat.le_of_ble_eq_true rfl⟩) (fun qr111 hqr111 => ?_)
      obtain rfl := hqr111.symm
      exact hR _ _ _ _ _ _ dX7_about_114 hf hP hD hS
    replace hf := it_f c12 hf
    have nc2 := lv_neT (a := 0) c2 (by decide)
    have nc4 := lv_neT (a := 1) c4 (by decide)
    have nc6 := lv_neT (a := 2) c6 (by decide)
    have nc8 := lv_neT (a := 3) c8 (by decide)
    have nc10 := lv_neT (a := 4) c10 (by decide)
    have nc12 := lv_neT (a := 5) c12 (by decide)
    refine lv_tableOut (tgt := 115) hx hb dX7_about_17 (by omega) (by decide) ?_
    refine lv_aload_n hx hb dX7_about_115 rfl (lv_at hl 0 rfl) ?_
    obtain ⟨r116, hr116, hf⟩ := bn_e hf
    have hPc := hP.sub (ws' := (wB g B)) [0] rfl
    have hDc := hD.sub (ws' := (wB g B)) [0] (by decide) rfl
    have hFc := va_free (wc := (wB g B)) hD hS hA [0] rfl
    refine va_calli (va_runV (As := []) (rest := []) C (c_X7_bad l dC dI cs g s.heap.size B r116 hr116) (cwV 0 hts gX7_about_X7_bad rfl rfl rfl (by decide +kernel) ⟨Nat.le_of_ble_eq_true rfl, Nat.le_of_ble_eq_true rfl⟩) ⟨(fun a U g mk q => ⟨q.1, q.2.1, q.2.2.1, GE.calling q.2.2.2.1, q.2.2.2.2⟩), va_recv hK hPc (ci := 7) (q0 := 0) rfl rfl, (fun U hU hW => ⟨rfl, by rw [hU], by rw [hU]; exact hPc, GE.warm hW G, hDc.weaken (fun _ _ _ _ => trivial)⟩)⟩ rfl rfl hl.1 rfl (lv_room (Nat.le_of_ble_eq_true rfl)) dX7_about_116 ⟨Nat.le_of_ble_eq_true rfl, Nat.le_of_ble_eq_true rfl⟩) hS (fun q _ h => hFc q h) hFc (fun q u t H1 locs ht hvm hw hB hz1 hk1 hS => ?_)
    obtain ⟨rfl, rfl⟩ := hw
    obtain ⟨hP1, hD1⟩ := hB
    rw [ht] at hP1
    obtain ⟨hP, hD⟩ := va_join (wr := [1, 2, 3, 4, 5, 6, 7, 8, 9, 10, 11].filterMap (fun i => ((wB g B ++ wT cs (fun i => g (1 + i)) N))[i]?)) (w1 := (wB g r116.2)) hP hD [0] [1, 2, 3, 4, 5, 6, 7, 8, 9, 10, 11] rfl rfl (by decide) (by decide) hk1 hFc hP1 hD1
    generalize H1 = H at hP hS ⊢
    have hP := hP.sub (ws' := (wB g r116.2 ++ wT cs (fun i => g (1 + i)) N)) [11, 0, 1, 2, 3, 4, 5, 6, 7, 8, 9, 10] rfl
    have hD := hD.sub (ws' := (wB g r116.2 ++ wT cs (fun i => g (1 + i)) N)) [11, 0, 1, 2, 3, 4, 5, 6, 7, 8, 9, 10] (by decide) rfl
    exact hR _ _ _ _ _ _ dX7_about_119 hf hP hD hS
  · replace hf := it_t c1 hf
    refine lv_aload_n hx hb dX7_about_11 rfl (lv_at hl 0 rfl) ?_
    obtain ⟨r12, hr12, hf⟩ := bn_e hf
    have hPc := hP.sub (ws' := (wB g B)) [0] rfl
    have hDc := hD.sub (ws' := (wB g B)) [0] (by decide) rfl
    have hFc := va_free (wc := (wB g B)) hD hS hA [0] rfl
    refine va_calli (va_runV (As := []) (rest := []) C (c_X7_bad l dC dI cs g s.heap.size B r12 hr12) (cwV 0 hts gX7_about_X7_bad rfl rfl rfl (by decide +kernel) ⟨Nat.le_of_ble_eq_true rfl, Nat.le_of_ble_eq_true rfl⟩) ⟨(fun a U g mk q => ⟨q.1, q.2.1, q.2.2.1, GE.calling q.2.2.2.1, q.2.2.2.2⟩), va_recv hK hPc (ci := 7) (q0 := 0) rfl rfl, (fun U hU hW => ⟨rfl, by rw [hU], by rw [hU]; exact hPc, GE.warm hW G, hDc.weaken (fun _ _ _ _ => trivial)⟩)⟩ rfl rfl hl.1 rfl (lv_room (Nat.le_of_ble_eq_true rfl)) dX7_about_12 ⟨Nat.le_of_ble_eq_true rfl, Nat.le_of_ble_eq_true rfl⟩) hS (fun q _ h => hFc q h) hFc (fun q u t H1 locs ht hvm hw hB hz1 hk1 hS => ?_)
    obtain ⟨rfl, rfl⟩ := hw
    obtain ⟨hP1, hD1⟩ := hB
    rw [ht] at hP1
    obtain ⟨hP, hD⟩ := va_join (wr := [1, 2, 3, 4, 5, 6, 7, 8, 9, 10, 11].filterMap (fun i => ((wB g B ++ wT cs (fun i => g (1 + i)) N))[i]?)) (w1 := (wB g r12.2)) hP hD [0] [1, 2, 3, 4, 5, 6, 7, 8, 9, 10, 11] rfl rfl (by decide) (by decide) hk1 hFc hP1 hD1
    generalize H1 = H at hP hS ⊢
    have hP := hP.sub (ws' := (wB g r12.2 ++ wT cs (fun i => g (1 + i)) N)) [11, 0, 1, 2, 3, 4, 5, 6, 7, 8, 9, 10] rfl
    have hD := hD.sub (ws' := (wB g r12.2 ++ wT cs (fun i => g (1 + i)) N)) [11, 0, 1, 2, 3, 4, 5, 6, 7, 8, 9, 10] (by decide) rfl
    exact hR _ _ _ _ _ _ dX7_about_15 hf hP hD hS

theorem in_X7_foretold_X5 : ∀ w ∈ wsX50, w ∈ wsX7_foretold := by decide +kernel
theorem in_X7_foretold_X7 : ∀ w ∈ wsX70, w ∈ wsX7_foretold := by decide +kernel
def f_X7_foretold_19 (B : Nat → Int32) (N : Tw) (R : Tw)  : Option (Int32 × (Nat → Int32) × Tw) :=
  bn (f_X7_bad B) fun r20 =>
  some (r20.1, (r20.2, R))
set_option maxHeartbeats 4000000 in
set_option maxRecDepth 100000 in
theorem b_X7_foretold_19 {p : Program} {l : Launch} {e : Env} {s : State} {m : MethodId} {args : Array Value} {below : List Frame} {meth : Method} {c : Code} {Q : State → Prop} {dC : Nat → ClassId} {dI : Nat → Nat → Nat} {cs : Nat → ClassId} {A : Nat → Prop} {g : Nat → Nat} {res : Int32 × (Nat → Int32) × Tw} (C : CallFix p m c cX7_foretold 4 s args wsX7_foretold RX7) (G : GE dC dI cs s) (hA : ∀ q : Nat, s.heap.size ≤ q → A q) {N : Tw} (hR : RTi p l e ({ frames := 5, cells := 0, slots := 0, locals := 111 }) s m args below meth c cX7_foretold Q (dC, dI) A (fun u : (Nat → Int32) × Tw => (wB g u.1 ++ wT cs (fun i => g (1 + i)) N ++ wF (g 44) (g 45) ++ wT cs (fun i => g (45 + i)) u.2)) res) (B : Nat → Int32) (_ : Tw) (R : Tw)   (H : Heap) (locs : List Loc) (ls : Array Slot) (hl : lv_has ls 4 [(0, .ref (g 0))]) (hP : va_P (dC, dI) vwCl (wB g B ++ wT cs (fun i => g (1 + i)) N ++ wF (g 44) (g 45) ++ wT cs (fun i => g (45 + i)) R) H) (hD : va_D A (wB g B ++ wT cs (fun i => g (1 + i)) N ++ wF (g 44) (g 45) ++ wT cs (fun i => g (45 + i)) R)) (hS : va_S A s.heap H locs) (hf : f_X7_foretold_19 B N R = some res) : W p l e ({ frames := 5, cells := 0, slots := 0, locals := 111 }) s m args below meth c H locs 0 0 Q (F0 m 19 ls []) := by
  obtain ⟨hx, hb, hml, hown, hts⟩ := id C
  obtain ⟨hK, hN⟩ := id G
  unfold f_X7_foretold_19 at hf
  refine lv_aload_n hx hb dX7_foretold_19 rfl (lv_at hl 0 rfl) ?_
  obtain ⟨r20, hr20, hf⟩ := bn_e hf
  have hPc := hP.sub (ws' := (wB g B)) [0] rfl
  have hDc := hD.sub (ws' := (wB g B)) [0] (by decide) rfl
  have hFc := va_free (wc := (wB g B)) hD hS hA [0] rfl
  refine va_calli (va_runV (As := []) (rest := []) C (c_X7_bad l dC dI cs g H.size B r20 hr20) (cwV 0 hts gX7_foretold_X7_bad rfl rfl rfl (by decide +kernel) ⟨Nat.le_of_ble_eq_true rfl, Nat.le_of_ble_eq_true rfl⟩) ⟨(fun a U g mk q => ⟨q.1, q.2.1, q.2.2.1, GE.calling q.2.2.2.1, q.2.2.2.2⟩), va_recv hK hPc (ci := 7) (q0 := 0) rfl rfl, (fun U hU hW => ⟨rfl, by rw [hU], by rw [hU]; exact hPc, GE.warm hW G, hDc.weaken (fun _ _ _ _ => trivial)⟩)⟩ rfl rfl hl.1 rfl (lv_room (Nat.le_of_ble_eq_true rfl)) dX7_foretold_20 ⟨Nat.le_of_ble_eq_true rfl, Nat.le_of_ble_eq_true rfl⟩) hS (fun q _ h => hFc q h) hFc (fun q u t H1 locs ht hvm hw hB hz1 hk1 hS => ?_)
  obtain ⟨rfl, rfl⟩ := hw
  obtain ⟨hP1, hD1⟩ := hB
  rw [ht] at hP1
  obtain ⟨hP, hD⟩ := va_join (wr := [1, 2, 3, 4, 5, 6, 7, 8, 9, 10, 11, 12, 13, 14, 15, 16, 17, 18, 19, 20, 21, 22, 23].filterMap (fun i => ((wB g B ++ wT cs (fun i => g (1 + i)) N ++ wF (g 44) (g 45) ++ wT cs (fun i => g (45 + i)) R))[i]?)) (w1 := (wB g r20.2)) hP hD [0] [1, 2, 3, 4, 5, 6, 7, 8, 9, 10, 11, 12, 13, 14, 15, 16, 17, 18, 19, 20, 21, 22, 23] rfl rfl (by decide) (by decide) hk1 hFc hP1 hD1
  generalize H1 = H at hP hS ⊢
  have hP := hP.sub (ws' := (wB g r20.2 ++ wT cs (fun i => g (1 + i)) N ++ wF (g 44) (g 45) ++ wT cs (fun i => g (45 + i)) R)) [23, 0, 1, 2, 3, 4, 5, 6, 7, 8, 9, 10, 11, 12, 13, 14, 15, 16, 17, 18, 19, 20, 21, 22] rfl
  have hD := hD.sub (ws' := (wB g r20.2 ++ wT cs (fun i => g (1 + i)) N ++ wF (g 44) (g 45) ++ wT cs (fun i => g (45 + i)) R)) [23, 0, 1, 2, 3, 4, 5, 6, 7, 8, 9, 10, 11, 12, 13, 14, 15, 16, 17, 18, 19, 20, 21, 22] (by decide) rfl
  exact hR _ _ _ _ _ _ dX7_foretold_23 hf hP hD hS
def f_X7_foretold (x1 : Int32) (x2 : Int32) (B : Nat → Int32) (N : Tw) (R : Tw) : Option (Int32 × (Nat → Int32) × Tw) :=
  bn (f_X7_within x1 (0 : Int32) (60 : Int32)) fun r4 =>
  if r4 = 0 then (
    f_X7_foretold_19 B N R
  ) else (
    bn (f_X7_within x2 (0 : Int32) (4 : Int32)) fun r13 =>
    if r13 = 0 then (
      f_X7_foretold_19 B N R
    ) else (
      bn (f_X1_lookAhead x1 R N) fun r33 =>
      if x2 = 0 then (
        some ((r33.1 0), (B, r33))
      ) else (
      if x2 = 1 then (
        some ((r33.1 3), (B, r33))
      ) else (
      if x2 = 2 then (
        bn (f_X5_howManyAre (1 : Int32) r33) fun r80 =>
        some (r80, (B, r33))
      ) else (
      if x2 = 3 then (
        bn (f_X5_howManyAre (2 : Int32) r33) fun r86 =>
        some (r86, (B, r33))
      ) else (
      bn (f_X5_howManyAre (3 : Int32) r33) fun r92 =>
      some (r92, (B, r33))
      ))))
    )
  )
set_option maxHeartbeats 4000000 in
set_option maxRecDepth 100000 in
theorem c_X7_foretold (l : Launch) (dC : Nat → ClassId) (dI : Nat → Nat → Nat) (cs : Nat → ClassId) (g : Nat → Nat) (sz : Nat) (B : Nat → Int32) (N : Tw) (R : Tw) (x1 : Int32) (x2 : Int32) (res : Int32 × (Nat → Int32) × Tw) (hf : f_X7_foretold x1 x2 B N R = some res) : Met l yX7_foretold wsX7_foretold ({ frames := 5, cells := 0, slots := 0, locals := 111 }) (va_Pc [.ref (g 0), .int (x1), .int (x2)] (fun U => U.heap.size = sz ∧ va_P (dC, dI) vwCl (wB g B ++ wT cs (fun i => g (1 + i)) N ++ wF (g 44) (g 45) ++ wT cs (fun i => g (45 + i)) R) U.heap ∧ GE dC dI cs U ∧ va_D (fun _ => True) (wB g B ++ wT cs (fun i => g (1 + i)) N ++ wF (g 44) (g 45) ++ wT cs (fun i => g (45 + i)) R))) (va_Qi (fun r (u : (Nat → Int32) × Tw) => r = res.1 ∧ u = res.2) (fun u t => va_P (dC, dI) vwCl ((fun u : (Nat → Int32) × Tw => (wB g u.1 ++ wT cs (fun i => g (1 + i)) N ++ wF (g 44) (g 45) ++ wT cs (fun i => g (45 + i)) u.2)) u) t.heap ∧ va_D (va_A (wB g B ++ wT cs (fun i => g (1 + i)) N ++ wF (g 44) (g 45) ++ wT cs (fun i => g (45 + i)) R) sz) ((fun u : (Nat → Int32) × Tw => (wB g u.1 ++ wT cs (fun i => g (1 + i)) N ++ wF (g 44) (g 45) ++ wT cs (fun i => g (45 + i)) u.2)) u)) (va_A (wB g B ++ wT cs (fun i => g (1 + i)) N ++ wF (g 44) (g 45) ++ wT cs (fun i => g (45 + i)) R) sz)) 0 0 (va_A (wB g B ++ wT cs (fun i => g (1 + i)) N ++ wF (g 44) (g 45) ++ wT cs (fun i => g (45 + i)) R) sz) := by
  refine Met.ofW (cc := cX7_foretold) (maxL := 4) (ret := (some .int)) (by decide) rfl ?_
  intro p e s m args below meth c s₁ Bd hml hv
  obtain ⟨rfl, hsz, hP, G, hD0⟩ := hv
  have hts := atoms_spec (ws := wsX7_foretold) Bd.pre
  have hown : s.vm.findClass RX7 = some m.cls := findClass_of_methodNamed Bd.named
  have hlocks := Bd.notSynchronized
  have hx := Bd.exec
  have hb := Bd.bytes
  have hr := Bd.returns
  have C : CallFix p m c cX7_foretold 4 s _ wsX7_foretold RX7 := ⟨hx, hb, hml, hown, hts⟩
  obtain ⟨hK, hN⟩ := id G
  subst hsz
  have hD := hD0.self (sz := s.heap.size)
  generalize hAe : va_A (wB g B ++ wT cs (fun i => g (1 + i)) N ++ wF (g 44) (g 45) ++ wT cs (fun i => g (45 + i)) R) s.heap.size = A at hD ⊢
  have hA : ∀ q : Nat, s.heap.size ≤ q → A q := fun q h => by rw [← hAe]; exact Or.inr h
  have hS : va_S A s.heap s.heap [] := va_S.rf
  have hR : RTi p l e ({ frames := 5, cells := 0, slots := 0, locals := 111 }) s m ([.ref (g 0), .int (x1), .int (x2)] : List Value).toArray below meth c cX7_foretold (MQ below (va_Qi (fun r (u : (Nat → Int32) × Tw) => r = res.1 ∧ u = res.2) (fun u t => va_P (dC, dI) vwCl ((fun u : (Nat → Int32) × Tw => (wB g u.1 ++ wT cs (fun i => g (1 + i)) N ++ wF (g 44) (g 45) ++ wT cs (fun i => g (45 + i)) u.2)) u) t.heap ∧ va_D A ((fun u : (Nat → Int32) × Tw => (wB g u.1 ++ wT cs (fun i => g (1 + i)) N ++ wF (g 44) (g 45) ++ wT cs (fun i => g (45 + i)) u.2)) u)) A) ([.ref (g 0), .int (x1), .int (x2)] : List Value).toArray s 0 0 A) (dC, dI) A (fun u : (Nat → Int32) × Tw => (wB g u.1 ++ wT cs (fun i => g (1 + i)) N ++ wF (g 44) (g 45) ++ wT cs (fun i => g (45 + i)) u.2)) res := fun H locs pc ls r u dd h hP hD hS => W.iret hx hb hr (fun t ht hW => ⟨⟨r, u, rfl, by cases h; exact ⟨rfl, rfl⟩, by rw [ht]; exact hP, hD⟩, hS.F ht⟩) hS.2.2 dd
  have hl := lv_entry ([.ref (g 0), .int (x1), .int (x2)]) (n := 4) (Nat.le_of_ble_eq_true rfl)
  rw [lg_entry_eq]
  generalize (lg_sl ([.ref (g 0), .int (x1), .int (x2)]) ++ List.replicate (4 - (lg_sl ([.ref (g 0), .int (x1), .int (x2)])).length) Slot.unset).toArray = ls at hl ⊢
  have hl : lv_has ls 4 [(0, .ref (g 0)), (1, .int (x1)), (2, .int (x2))] := hl
  unfold f_X7_foretold at hf
  refine lv_iload_n hx hb dX7_foretold_0 rfl (lv_at hl 1 rfl) ?_
  refine lv_iconst (v := 0) hx hb dX7_foretold_1 (by decide) ?_
  refine lv_bipush (v := 60) hx hb dX7_foretold_2 (by decide) ?_
  obtain ⟨r4, hr4, hf⟩ := bn_e hf
  have hPc := hP.sub (ws' := ([] : va_W)) [] rfl
  refine vp_callSi (W.runS (As := [.int (x1), .int ((0 : Int32)), .int ((60 : Int32))]) (rest := []) C (c_X7_within l dC dI cs x1 (0 : Int32) (60 : Int32) r4 hr4) (va_cwS 3 hts gX7_foretold_X7_within rfl rfl rfl (by decide +kernel) ⟨Nat.le_of_ble_eq_true rfl, Nat.le_of_ble_eq_true rfl⟩) ⟨(fun a U g mk q => ⟨q.1, q.2.1, GE.calling q.2.2⟩), (fun U hU hW => ⟨rfl, by rw [hU]; exact hPc, GE.warm hW G⟩)⟩ rfl rfl hl.1 rfl (lv_room (Nat.le_of_ble_eq_true rfl)) dX7_foretold_4 ⟨Nat.le_of_ble_eq_true rfl, Nat.le_of_ble_eq_true rfl⟩) (fun qr4 hqr4 => ?_)
  obtain ⟨hqr4, hnr4⟩ := hqr4
  obtain rfl := hqr4.symm
  refine lv_if_eq (tgt := 19) hx hb dX7_foretold_7 (by decide) (fun c1 => ?_) (fun c1 => ?_)
  · replace hf := it_t c1 hf
    exact b_X7_foretold_19 C G hA hR B N R _ _ _ (lv_sub hl [0] rfl) hP hD hS hf
  · replace hf := it_f c1 hf
    refine lv_iload_n hx hb dX7_foretold_10 rfl (lv_at hl 2 rfl) ?_
    refine lv_iconst (v := 0) hx hb dX7_foretold_11 (by decide) ?_
    refine lv_iconst (v := 4) hx hb dX7_foretold_12 (by decide) ?_
    obtain ⟨r13, hr13, hf⟩ := bn_e hf
    have hPc := hP.sub (ws' := ([] : va_W)) [] rfl
    refine vp_callSi (W.runS (As := [.int (x2), .int ((0 : Int32)), .int ((4 : Int32))]) (rest := []) C (c_X7_within l dC dI cs x2 (0 : Int32) (4 : Int32) r13 hr13) (va_cwS 3 hts gX7_foretold_X7_within rfl rfl rfl (by decide +kernel) ⟨Nat.le_of_ble_eq_true rfl, Nat.le_of_ble_eq_true rfl⟩) ⟨(fun a U g mk q => ⟨q.1, q.2.1, GE.calling q.2.2⟩), (fun U hU hW => ⟨rfl, by rw [hU]; exact hPc, GE.warm hW G⟩)⟩ rfl rfl hl.1 rfl (lv_room (Nat.le_of_ble_eq_true rfl)) dX7_foretold_13 ⟨Nat.le_of_ble_eq_true rfl, Nat.le_of_ble_eq_true rfl⟩) (fun qr13 hqr13 => ?_)
    obtain ⟨hqr13, hnr13⟩ := hqr13
    obtain rfl := hqr13.symm
    refine lv_if_ne (tgt := 24) hx hb dX7_foretold_16 (by decide) (fun c2 => ?_) (fun c2 => ?_)
    · replace hf := it_f c2 hf
      refine lv_aload_n hx hb dX7_foretold_24 rfl (lv_at hl 0 rfl) ?_
      refine va_get (D := (dC, dI)) (ci := 7) (v := .ref (g 44)) (C := RX7) (T := TX7) (N := 11) hx hb hts in_X7_foretold_X7 hown hK hP 0 rfl rfl 5 (by decide) (hts (.fieldLink RX7 43 "BackLoans" "foresight" "LBackLoans$Foresight;") (by decide +kernel)) (fun _ h9 => h9) rfl dX7_foretold_25 ?_
      refine lv_aload_n hx hb dX7_foretold_28 rfl (lv_at hl 0 rfl) ?_
      refine va_get (D := (dC, dI)) (ci := 7) (v := .ref (g 1)) (C := RX7) (T := TX7) (N := 11) hx hb hts in_X7_foretold_X7 hown hK hP 0 rfl rfl 0 (by decide) (hts (.fieldLink RX7 10 "BackLoans" "now" "LBackLoans$Town;") (by decide +kernel)) (fun _ h9 => h9) rfl dX7_foretold_29 ?_
      refine lv_iload_n hx hb dX7_foretold_32 rfl (lv_at hl 1 rfl) ?_
      obtain ⟨r33, hr33, hf⟩ := bn_e hf
      have hPc := hP.sub (ws' := (wF (g 44) (g 45) ++ wT cs (fun i => g (45 + i)) R ++ wT cs (fun i => g (1 + i)) N)) [12, 13, 14, 15, 16, 17, 18, 19, 20, 21, 22, 23, 1, 2, 3, 4, 5, 6, 7, 8, 9, 10, 11] rfl
      have hDc := hD.sub (ws' := (wF (g 44) (g 45) ++ wT cs (fun i => g (45 + i)) R ++ wT cs (fun i => g (1 + i)) N)) [12, 13, 14, 15, 16, 17, 18, 19, 20, 21, 22, 23, 1, 2, 3, 4, 5, 6, 7, 8, 9, 10, 11] (by decide) rfl
      have hFc := va_free (wc := (wF (g 44) (g 45) ++ wT cs (fun i => g (45 + i)) R ++ wT cs (fun i => g (1 + i)) N)) hD hS hA [12, 13, 14, 15, 16, 17, 18, 19, 20, 21, 22, 23, 1, 2, 3, 4, 5, 6, 7, 8, 9, 10, 11] rfl
      refine va_callr (va_runV (As := [.ref (g 1), .int (x1)]) (rest := []) C (c_X1_lookAhead l dC dI cs (fun i => g (44 + i)) (fun i => g (45 + i)) (fun i => g (1 + i)) s.heap.size R N x1 r33 hr33) (cwV 2 hts gX7_foretold_X1_lookAhead rfl rfl rfl (by decide +kernel) ⟨Nat.le_of_ble_eq_true rfl, Nat.le_of_ble_eq_true rfl⟩) ⟨(fun a U g mk q => ⟨q.1, q.2.1, q.2.2.1, GE.calling q.2.2.2.1, q.2.2.2.2⟩), va_recv hK hPc (ci := 1) (q0 := 0) rfl rfl, (fun U hU hW => ⟨rfl, by rw [hU], by rw [hU]; exact hPc, GE.warm hW G, hDc.weaken (fun _ _ _ _ => trivial)⟩)⟩ rfl rfl hl.1 rfl (lv_room (Nat.le_of_ble_eq_true rfl)) dX7_foretold_33 ⟨Nat.le_of_ble_eq_true rfl, Nat.le_of_ble_eq_true rfl⟩) hS (fun q _ h => hFc q h) hFc (fun u q t H1 locs ht hvm hw hB hz1 hk1 hS => ?_)
      obtain rfl := hw.symm
      obtain ⟨rfl, hP1, hD1⟩ := hB
      rw [ht] at hP1
      obtain ⟨hP, hD⟩ := va_join (wr := [0].filterMap (fun i => ((wB g B ++ wT cs (fun i => g (1 + i)) N ++ wF (g 44) (g 45) ++ wT cs (fun i => g (45 + i)) R))[i]?)) (w1 := (wF (g 44) (g 45) ++ wT cs (fun i => g (45 + i)) r33 ++ wT cs (fun i => g (1 + i)) N)) hP hD [12, 13, 14, 15, 16, 17, 18, 19, 20, 21, 22, 23, 1, 2, 3, 4, 5, 6, 7, 8, 9, 10, 11] [0] rfl rfl (by decide) (by decide) hk1 hFc hP1 hD1
      generalize H1 = H at hP hS ⊢
      have hP := hP.sub (ws' := (wB g B ++ wT cs (fun i => g (1 + i)) N ++ wF (g 44) (g 45) ++ wT cs (fun i => g (45 + i)) r33)) [0, 13, 14, 15, 16, 17, 18, 19, 20, 21, 22, 23, 1, 2, 3, 4, 5, 6, 7, 8, 9, 10, 11, 12] rfl
      have hD := hD.sub (ws' := (wB g B ++ wT cs (fun i => g (1 + i)) N ++ wF (g 44) (g 45) ++ wT cs (fun i => g (45 + i)) r33)) [0, 13, 14, 15, 16, 17, 18, 19, 20, 21, 22, 23, 1, 2, 3, 4, 5, 6, 7, 8, 9, 10, 11, 12] (by decide) rfl
      refine lv_astore_n (lv' := [(3, .ref (g 45)), (0, .ref (g 0)), (1, .int (x1)), (2, .int (x2))]) hx hb dX7_foretold_36 rfl hl (by decide) rfl (fun ls hl => ?_)
      refine lv_iload_n hx hb dX7_foretold_37 rfl (lv_at hl 3 rfl) ?_
      by_cases c3 : x2 = 0
      · replace hf := it_t c3 hf
        refine lv_tableIn (tgt := 68) hx hb dX7_foretold_38 (by rw [c3]; decide) (by rw [c3]; decide) (by rw [c3]; rfl) (by decide) ?_
        refine lv_aload_n hx hb dX7_foretold_68 rfl (lv_at hl 0 rfl) ?_
        refine va_get (D := (dC, dI)) (ci := 5) (v := .int ((r33.1 0))) (C := RX5) (T := TX5) (N := 17) hx hb hts in_X7_foretold_X5 hown hK hP 13 rfl rfl 0 (by decide) (hts (.fieldLink RX7 70 "BackLoans$Town" "chest" "I") (by decide +kernel)) (fun _ h9 => h9) rfl dX7_foretold_69 ?_
        exact hR _ _ _ _ _ _ dX7_foretold_72 hf hP hD hS
      replace hf := it_f c3 hf
      by_cases c4 : x2 = 1
      · replace hf := it_t c4 hf
        refine lv_tableIn (tgt := 73) hx hb dX7_foretold_38 (by rw [c4]; decide) (by rw [c4]; decide) (by rw [c4]; rfl) (by decide) ?_
        refine lv_aload_n hx hb dX7_foretold_73 rfl (lv_at hl 0 rfl) ?_
        refine va_get (D := (dC, dI)) (ci := 5) (v := .int ((r33.1 3))) (C := RX5) (T := TX5) (N := 17) hx hb hts in_X7_foretold_X5 hown hK hP 13 rfl rfl 3 (by decide) (hts (.fieldLink RX7 193 "BackLoans$Town" "lacks" "I") (by decide +kernel)) (fun _ h9 => h9) rfl dX7_foretold_74 ?_
        exact hR _ _ _ _ _ _ dX7_foretold_77 hf hP hD hS
      replace hf := it_f c4 hf
      by_cases c5 : x2 = 2
      · replace hf := it_t c5 hf
        refine lv_tableIn (tgt := 78) hx hb dX7_foretold_38 (by rw [c5]; decide) (by rw [c5]; decide) (by rw [c5]; rfl) (by decide) ?_
        refine lv_aload_n hx hb dX7_foretold_78 rfl (lv_at hl 0 rfl) ?_
        refine lv_iconst (v := 1) hx hb dX7_foretold_79 (by decide) ?_
        obtain ⟨r80, hr80, hf⟩ := bn_e hf
        have hPc := hP.sub (ws' := (wT cs (fun i => g (45 + i)) r33)) [13, 14, 15, 16, 17, 18, 19, 20, 21, 22, 23] rfl
        refine vp_callSi (W.runV (As := [.int ((1 : Int32))]) (rest := []) C (c_X5_howManyAre l dC dI cs (fun i => g (45 + i)) r33 (1 : Int32) r80 hr80) (cwV 1 hts gX7_foretold_X5_howManyAre rfl rfl rfl (by decide +kernel) ⟨Nat.le_of_ble_eq_true rfl, Nat.le_of_ble_eq_true rfl⟩) ⟨(fun a U g mk q => ⟨q.1, q.2.1, GE.calling q.2.2⟩), va_recv hK hPc (ci := 5) (q0 := 0) rfl rfl, (fun U hU hW => ⟨rfl, by rw [hU]; exact hPc, GE.warm hW G⟩)⟩ rfl rfl hl.1 rfl (lv_room (Nat.le_of_ble_eq_true rfl)) dX7_foretold_80 ⟨Nat.le_of_ble_eq_true rfl, Nat.le_of_ble_eq_true rfl⟩) (fun qr80 hqr80 => ?_)
        obtain rfl := hqr80.symm
        exact hR _ _ _ _ _ _ dX7_foretold_83 hf hP hD hS
      replace hf := it_f c5 hf
      by_cases c6 : x2 = 3
      · replace hf := it_t c6 hf
        refine lv_tableIn (tgt := 84) hx hb dX7_foretold_38 (by rw [c6]; decide) (by rw [c6]; decide) (by rw [c6]; rfl) (by decide) ?_
        refine lv_aload_n hx hb dX7_foretold_84 rfl (lv_at hl 0 rfl) ?_
        refine lv_iconst (v := 2) hx hb dX7_foretold_85 (by decide) ?_
        obtain ⟨r86, hr86, hf⟩ := bn_e hf
        have hPc := hP.sub (ws' := (wT cs (fun i => g (45 + i)) r33)) [13, 14, 15, 16, 17, 18, 19, 20, 21, 22, 23] rfl
        refine vp_callSi (W.runV (As := [.int ((2 : Int32))]) (rest := []) C (c_X5_howManyAre l dC dI cs (fun i => g (45 + i)) r33 (2 : Int32) r86 hr86) (cwV 1 hts gX7_foretold_X5_howManyAre rfl rfl rfl (by decide +kernel) ⟨Nat.le_of_ble_eq_true rfl, Nat.le_of_ble_eq_true rfl⟩) ⟨(fun a U g mk q => ⟨q.1, q.2.1, GE.calling q.2.2⟩), va_recv hK hPc (ci := 5) (q0 := 0) rfl rfl, (fun U hU hW => ⟨rfl, by rw [hU]; exact hPc, GE.warm hW G⟩)⟩ rfl rfl hl.1 rfl (lv_room (Nat.le_of_ble_eq_true rfl)) dX7_foretold_86 ⟨Nat.le_of_ble_eq_true rfl, Nat.le_of_ble_eq_true rfl⟩) (fun qr86 hqr86 => ?_)
        obtain rfl := hqr86.symm
        exact hR _ _ _ _ _ _ dX7_foretold_89 hf hP hD hS
      replace hf := it_f c6 hf
      have nc3 := lv_neT (a := 0) c3 (by decide)
      have nc4 := lv_neT (a := 1) c4 (by decide)
      have nc5 := lv_neT (a := 2) c5 (by decide)
      have nc6 := lv_neT (a := 3) c6 (by decide)
      refine lv_tableOut (tgt := 90) hx hb dX7_foretold_38 (by omega) (by decide) ?_
      refine lv_aload_n hx hb dX7_foretold_90 rfl (lv_at hl 0 rfl) ?_
      refine lv_iconst (v := 3) hx hb dX7_foretold_91 (by decide) ?_
      obtain ⟨r92, hr92, hf⟩ := bn_e hf
      have hPc := hP.sub (ws' := (wT cs (fun i => g (45 + i)) r33)) [13, 14, 15, 16, 17, 18, 19, 20, 21, 22, 23] rfl
      refine vp_callSi (W.runV (As := [.int ((3 : Int32))]) (rest := []) C (c_X5_howManyAre l dC dI cs (fun i => g (45 + i)) r33 (3 : Int32) r92 hr92) (cwV 1 hts gX7_foretold_X5_howManyAre rfl rfl rfl (by decide +kernel) ⟨Nat.le_of_ble_eq_true rfl, Nat.le_of_ble_eq_true rfl⟩) ⟨(fun a U g mk q => ⟨q.1, q.2.1, GE.calling q.2.2⟩), va_recv hK hPc (ci := 5) (q0 := 0) rfl rfl, (fun U hU hW => ⟨rfl, by rw [hU]; exact hPc, GE.warm hW G⟩)⟩ rfl rfl hl.1 rfl (lv_room (Nat.le_of_ble_eq_true rfl)) dX7_foretold_92 ⟨Nat.le_of_ble_eq_true rfl, Nat.le_of_ble_eq_true rfl⟩) (fun qr92 hqr92 => ?_)
      obtain rfl := hqr92.symm
      exact hR _ _ _ _ _ _ dX7_foretold_95 hf hP hD hS
    · replace hf := it_t c2 hf
      exact b_X7_foretold_19 C G hA hR B N R _ _ _ (lv_sub hl [0] rfl) hP hD hS hf

theorem in_X7_purse_X5 : ∀ w ∈ wsX50, w ∈ wsX7_purse := by decide +kernel
theorem in_X7_purse_X7 : ∀ w ∈ wsX70, w ∈ wsX7_purse := by decide +kernel
def f_X7_purse_21 (B : Nat → Int32) (N : Tw) (R : Tw)  : Option (Int32 × (Nat → Int32) × Tw) :=
  bn (f_X7_bad B) fun r22 =>
  some (r22.1, (r22.2, R))
set_option maxHeartbeats 4000000 in
set_option maxRecDepth 100000 in
theorem b_X7_purse_21 {p : Program} {l : Launch} {e : Env} {s : State} {m : MethodId} {args : Array Value} {below : List Frame} {meth : Method} {c : Code} {Q : State → Prop} {dC : Nat → ClassId} {dI : Nat → Nat → Nat} {cs : Nat → ClassId} {A : Nat → Prop} {g : Nat → Nat} {res : Int32 × (Nat → Int32) × Tw} (C : CallFix p m c cX7_purse 3 s args wsX7_purse RX7) (G : GE dC dI cs s) (hA : ∀ q : Nat, s.heap.size ≤ q → A q) {N : Tw} (hR : RTi p l e ({ frames := 5, cells := 0, slots := 0, locals := 111 }) s m args below meth c cX7_purse Q (dC, dI) A (fun u : (Nat → Int32) × Tw => (wB g u.1 ++ wT cs (fun i => g (1 + i)) N ++ wF (g 44) (g 45) ++ wT cs (fun i => g (45 + i)) u.2)) res) (B : Nat → Int32) (_ : Tw) (R : Tw)   (H : Heap) (locs : List Loc) (ls : Array Slot) (hl : lv_has ls 3 [(0, .ref (g 0))]) (hP : va_P (dC, dI) vwCl (wB g B ++ wT cs (fun i => g (1 + i)) N ++ wF (g 44) (g 45) ++ wT cs (fun i => g (45 + i)) R) H) (hD : va_D A (wB g B ++ wT cs (fun i => g (1 + i)) N ++ wF (g 44) (g 45) ++ wT cs (fun i => g (45 + i)) R)) (hS : va_S A s.heap H locs) (hf : f_X7_purse_21 B N R = some res) : W p l e ({ frames := 5, cells := 0, slots := 0, locals := 111 }) s m args below meth c H locs 0 0 Q (F0 m 21 ls []) := by
  obtain ⟨hx, hb, hml, hown, hts⟩ := id C
  obtain ⟨hK, hN⟩ := id G
  unfold f_X7_purse_21 at hf
  refine lv_aload_n hx hb dX7_purse_21 rfl (lv_at hl 0 rfl) ?_
  obtain ⟨r22, hr22, hf⟩ := bn_e hf
  have hPc := hP.sub (ws' := (wB g B)) [0] rfl
  have hDc := hD.sub (ws' := (wB g B)) [0] (by decide) rfl
  have hFc := va_free (wc := (wB g B)) hD hS hA [0] rfl
  refine va_calli (va_runV (As := []) (rest := []) C (c_X7_bad l dC dI cs g H.size B r22 hr22) (cwV 0 hts gX7_purse_X7_bad rfl rfl rfl (by decide +kernel) ⟨Nat.le_of_ble_eq_true rfl, Nat.le_of_ble_eq_true rfl⟩) ⟨(fun a U g mk q => ⟨q.1, q.2.1, q.2.2.1, GE.calling q.2.2.2.1, q.2.2.2.2⟩), va_recv hK hPc (ci := 7) (q0 := 0) rfl rfl, (fun U hU hW => ⟨rfl, by rw [hU], by rw [hU]; exact hPc, GE.warm hW G, hDc.weaken (fun _ _ _ _ => trivial)⟩)⟩ rfl rfl hl.1 rfl (lv_room (Nat.le_of_ble_eq_true rfl)) dX7_purse_22 ⟨Nat.le_of_ble_eq_true rfl, Nat.le_of_ble_eq_true rfl⟩) hS (fun q _ h => hFc q h) hFc (fun q u t H1 locs ht hvm hw hB hz1 hk1 hS => ?_)
  obtain ⟨rfl, rfl⟩ := hw
  obtain ⟨hP1, hD1⟩ := hB
  rw [ht] at hP1
  obtain ⟨hP, hD⟩ := va_join (wr := [1, 2, 3, 4, 5, 6, 7, 8, 9, 10, 11, 12, 13, 14, 15, 16, 17, 18, 19, 20, 21, 22, 23].filterMap (fun i => ((wB g B ++ wT cs (fun i => g (1 + i)) N ++ wF (g 44) (g 45) ++ wT cs (fun i => g (45 + i)) R))[i]?)) (w1 := (wB g r22.2)) hP hD [0] [1, 2, 3, 4, 5, 6, 7, 8, 9, 10, 11, 12, 13, 14, 15, 16, 17, 18, 19, 20, 21, 22, 23] rfl rfl (by decide) (by decide) hk1 hFc hP1 hD1
  generalize H1 = H at hP hS ⊢
  have hP := hP.sub (ws' := (wB g r22.2 ++ wT cs (fun i => g (1 + i)) N ++ wF (g 44) (g 45) ++ wT cs (fun i => g (45 + i)) R)) [23, 0, 1, 2, 3, 4, 5, 6, 7, 8, 9, 10, 11, 12, 13, 14, 15, 16, 17, 18, 19, 20, 21, 22] rfl
  have hD := hD.sub (ws' := (wB g r22.2 ++ wT cs (fun i => g (1 + i)) N ++ wF (g 44) (g 45) ++ wT cs (fun i => g (45 + i)) R)) [23, 0, 1, 2, 3, 4, 5, 6, 7, 8, 9, 10, 11, 12, 13, 14, 15, 16, 17, 18, 19, 20, 21, 22] (by decide) rfl
  exact hR _ _ _ _ _ _ dX7_purse_25 hf hP hD hS
def f_X7_purse (x1 : Int32) (x2 : Int32) (B : Nat → Int32) (N : Tw) (R : Tw) : Option (Int32 × (Nat → Int32) × Tw) :=
  bn (f_X7_within x1 (0 : Int32) (60 : Int32)) fun r4 =>
  if r4 = 0 then (
    f_X7_purse_21 B N R
  ) else (
    bn (f_X5_hasPerson x2 N) fun r15 =>
    if r15 = 0 then (
      f_X7_purse_21 B N R
    ) else (
      bn (f_X1_lookAhead x1 R N) fun r35 =>
      gi (x2) 6 <|
      some (((r35.2 2) (x2).toNatClampNeg), (B, r35))
    )
  )
set_option maxHeartbeats 4000000 in
set_option maxRecDepth 100000 in
theorem c_X7_purse (l : Launch) (dC : Nat → ClassId) (dI : Nat → Nat → Nat) (cs : Nat → ClassId) (g : Nat → Nat) (sz : Nat) (B : Nat → Int32) (N : Tw) (R : Tw) (x1 : Int32) (x2 : Int32) (res : Int32 × (Nat → Int32) × Tw) (hf : f_X7_purse x1 x2 B N R = some res) : Met l yX7_purse wsX7_purse ({ frames := 5, cells := 0, slots := 0, locals := 111 }) (va_Pc [.ref (g 0), .int (x1), .int (x2)] (fun U => U.heap.size = sz ∧ va_P (dC, dI) vwCl (wB g B ++ wT cs (fun i => g (1 + i)) N ++ wF (g 44) (g 45) ++ wT cs (fun i => g (45 + i)) R) U.heap ∧ GE dC dI cs U ∧ va_D (fun _ => True) (wB g B ++ wT cs (fun i => g (1 + i)) N ++ wF (g 44) (g 45) ++ wT cs (fun i => g (45 + i)) R))) (va_Qi (fun r (u : (Nat → Int32) × Tw) => r = res.1 ∧ u = res.2) (fun u t => va_P (dC, dI) vwCl ((fun u : (Nat → Int32) × Tw => (wB g u.1 ++ wT cs (fun i => g (1 + i)) N ++ wF (g 44) (g 45) ++ wT cs (fun i => g (45 + i)) u.2)) u) t.heap ∧ va_D (va_A (wB g B ++ wT cs (fun i => g (1 + i)) N ++ wF (g 44) (g 45) ++ wT cs (fun i => g (45 + i)) R) sz) ((fun u : (Nat → Int32) × Tw => (wB g u.1 ++ wT cs (fun i => g (1 + i)) N ++ wF (g 44) (g 45) ++ wT cs (fun i => g (45 + i)) u.2)) u)) (va_A (wB g B ++ wT cs (fun i => g (1 + i)) N ++ wF (g 44) (g 45) ++ wT cs (fun i => g (45 + i)) R) sz)) 0 0 (va_A (wB g B ++ wT cs (fun i => g (1 + i)) N ++ wF (g 44) (g 45) ++ wT cs (fun i => g (45 + i)) R) sz) := by
  refine Met.ofW (cc := cX7_purse) (maxL := 3) (ret := (some .int)) (by decide) rfl ?_
  intro p e s m args below meth c s₁ Bd hml hv
  obtain ⟨rfl, hsz, hP, G, hD0⟩ := hv
  have hts := atoms_spec (ws := wsX7_purse) Bd.pre
  have hown : s.vm.findClass RX7 = some m.cls := findClass_of_methodNamed Bd.named
  have hlocks := Bd.notSynchronized
  have hx := Bd.exec
  have hb := Bd.bytes
  have hr := Bd.returns
  have C : CallFix p m c cX7_purse 3 s _ wsX7_purse RX7 := ⟨hx, hb, hml, hown, hts⟩
  obtain ⟨hK, hN⟩ := id G
  subst hsz
  have hD := hD0.self (sz := s.heap.size)
  generalize hAe : va_A (wB g B ++ wT cs (fun i => g (1 + i)) N ++ wF (g 44) (g 45) ++ wT cs (fun i => g (45 + i)) R) s.heap.size = A at hD ⊢
  have hA : ∀ q : Nat, s.heap.size ≤ q → A q := fun q h => by rw [← hAe]; exact Or.inr h
  have hS : va_S A s.heap s.heap [] := va_S.rf
  have hR : RTi p l e ({ frames := 5, cells := 0, slots := 0, locals := 111 }) s m ([.ref (g 0), .int (x1), .int (x2)] : List Value).toArray below meth c cX7_purse (MQ below (va_Qi (fun r (u : (Nat → Int32) × Tw) => r = res.1 ∧ u = res.2) (fun u t => va_P (dC, dI) vwCl ((fun u : (Nat → Int32) × Tw => (wB g u.1 ++ wT cs (fun i => g (1 + i)) N ++ wF (g 44) (g 45) ++ wT cs (fun i => g (45 + i)) u.2)) u) t.heap ∧ va_D A ((fun u : (Nat → Int32) × Tw => (wB g u.1 ++ wT cs (fun i => g (1 + i)) N ++ wF (g 44) (g 45) ++ wT cs (fun i => g (45 + i)) u.2)) u)) A) ([.ref (g 0), .int (x1), .int (x2)] : List Value).toArray s 0 0 A) (dC, dI) A (fun u : (Nat → Int32) × Tw => (wB g u.1 ++ wT cs (fun i => g (1 + i)) N ++ wF (g 44) (g 45) ++ wT cs (fun i => g (45 + i)) u.2)) res := fun H locs pc ls r u dd h hP hD hS => W.iret hx hb hr (fun t ht hW => ⟨⟨r, u, rfl, by cases h; exact ⟨rfl, rfl⟩, by rw [ht]; exact hP, hD⟩, hS.F ht⟩) hS.2.2 dd
  have hl := lv_entry ([.ref (g 0), .int (x1), .int (x2)]) (n := 3) (Nat.le_of_ble_eq_true rfl)
  rw [lg_entry_eq]
  generalize (lg_sl ([.ref (g 0), .int (x1), .int (x2)]) ++ List.replicate (3 - (lg_sl ([.ref (g 0), .int (x1), .int (x2)])).length) Slot.unset).toArray = ls at hl ⊢
  have hl : lv_has ls 3 [(0, .ref (g 0)), (1, .int (x1)), (2, .int (x2))] := hl
  unfold f_X7_purse at hf
  refine lv_iload_n hx hb dX7_purse_0 rfl (lv_at hl 1 rfl) ?_
  refine lv_iconst (v := 0) hx hb dX7_purse_1 (by decide) ?_
  refine lv_bipush (v := 60) hx hb dX7_purse_2 (by decide) ?_
  obtain ⟨r4, hr4, hf⟩ := bn_e hf
  have hPc := hP.sub (ws' := ([] : va_W)) [] rfl
  refine vp_callSi (W.runS (As := [.int (x1), .int ((0 : Int32)), .int ((60 : Int32))]) (rest := []) C (c_X7_within l dC dI cs x1 (0 : Int32) (60 : Int32) r4 hr4) (va_cwS 3 hts gX7_purse_X7_within rfl rfl rfl (by decide +kernel) ⟨Nat.le_of_ble_eq_true rfl, Nat.le_of_ble_eq_true rfl⟩) ⟨(fun a U g mk q => ⟨q.1, q.2.1, GE.calling q.2.2⟩), (fun U hU hW => ⟨rfl, by rw [hU]; exact hPc, GE.warm hW G⟩)⟩ rfl rfl hl.1 rfl (lv_room (Nat.le_of_ble_eq_true rfl)) dX7_purse_4 ⟨Nat.le_of_ble_eq_true rfl, Nat.le_of_ble_eq_true rfl⟩) (fun qr4 hqr4 => ?_)
  obtain ⟨hqr4, hnr4⟩ := hqr4
  obtain rfl := hqr4.symm
  refine lv_if_eq (tgt := 21) hx hb dX7_purse_7 (by decide) (fun c1 => ?_) (fun c1 => ?_)
  · replace hf := it_t c1 hf
    exact b_X7_purse_21 C G hA hR B N R _ _ _ (lv_sub hl [0] rfl) hP hD hS hf
  · replace hf := it_f c1 hf
    refine lv_aload_n hx hb dX7_purse_10 rfl (lv_at hl 0 rfl) ?_
    refine va_get (D := (dC, dI)) (ci := 7) (v := .ref (g 1)) (C := RX7) (T := TX7) (N := 11) hx hb hts in_X7_purse_X7 hown hK hP 0 rfl rfl 0 (by decide) (hts (.fieldLink RX7 10 "BackLoans" "now" "LBackLoans$Town;") (by decide +kernel)) (fun _ h9 => h9) rfl dX7_purse_11 ?_
    refine lv_iload_n hx hb dX7_purse_14 rfl (lv_at hl 2 rfl) ?_
    obtain ⟨r15, hr15, hf⟩ := bn_e hf
    have hPc := hP.sub (ws' := (wT cs (fun i => g (1 + i)) N)) [1, 2, 3, 4, 5, 6, 7, 8, 9, 10, 11] rfl
    refine vp_callSi (W.runV (As := [.int (x2)]) (rest := []) C (c_X5_hasPerson l dC dI cs (fun i => g (1 + i)) N x2 r15 hr15) (cwV 1 hts gX7_purse_X5_hasPerson rfl rfl rfl (by decide +kernel) ⟨Nat.le_of_ble_eq_true rfl, Nat.le_of_ble_eq_true rfl⟩) ⟨(fun a U g mk q => ⟨q.1, q.2.1, GE.calling q.2.2⟩), va_recv hK hPc (ci := 5) (q0 := 0) rfl rfl, (fun U hU hW => ⟨rfl, by rw [hU]; exact hPc, GE.warm hW G⟩)⟩ rfl rfl hl.1 rfl (lv_room (Nat.le_of_ble_eq_true rfl)) dX7_purse_15 ⟨Nat.le_of_ble_eq_true rfl, Nat.le_of_ble_eq_true rfl⟩) (fun qr15 hqr15 => ?_)
    obtain ⟨hqr15, hnr15⟩ := hqr15
    obtain rfl := hqr15.symm
    refine lv_if_ne (tgt := 26) hx hb dX7_purse_18 (by decide) (fun c2 => ?_) (fun c2 => ?_)
    · replace hf := it_f c2 hf
      refine lv_aload_n hx hb dX7_purse_26 rfl (lv_at hl 0 rfl) ?_
      refine va_get (D := (dC, dI)) (ci := 7) (v := .ref (g 44)) (C := RX7) (T := TX7) (N := 11) hx hb hts in_X7_purse_X7 hown hK hP 0 rfl rfl 5 (by decide) (hts (.fieldLink RX7 43 "BackLoans" "foresight" "LBackLoans$Foresight;") (by decide +kernel)) (fun _ h9 => h9) rfl dX7_purse_27 ?_
      refine lv_aload_n hx hb dX7_purse_30 rfl (lv_at hl 0 rfl) ?_
      refine va_get (D := (dC, dI)) (ci := 7) (v := .ref (g 1)) (C := RX7) (T := TX7) (N := 11) hx hb hts in_X7_purse_X7 hown hK hP 0 rfl rfl 0 (by decide) (hts (.fieldLink RX7 10 "BackLoans" "now" "LBackLoans$Town;") (by decide +kernel)) (fun _ h9 => h9) rfl dX7_purse_31 ?_
      refine lv_iload_n hx hb dX7_purse_34 rfl (lv_at hl 1 rfl) ?_
      obtain ⟨r35, hr35, hf⟩ := bn_e hf
      have hPc := hP.sub (ws' := (wF (g 44) (g 45) ++ wT cs (fun i => g (45 + i)) R ++ wT cs (fun i => g (1 + i)) N)) [12, 13, 14, 15, 16, 17, 18, 19, 20, 21, 22, 23, 1, 2, 3, 4, 5, 6, 7, 8, 9, 10, 11] rfl
      have hDc := hD.sub (ws' := (wF (g 44) (g 45) ++ wT cs (fun i => g (45 + i)) R ++ wT cs (fun i => g (1 + i)) N)) [12, 13, 14, 15, 16, 17, 18, 19, 20, 21, 22, 23, 1, 2, 3, 4, 5, 6, 7, 8, 9, 10, 11] (by decide) rfl
      have hFc := va_free (wc := (wF (g 44) (g 45) ++ wT cs (fun i => g (45 + i)) R ++ wT cs (fun i => g (1 + i)) N)) hD hS hA [12, 13, 14, 15, 16, 17, 18, 19, 20, 21, 22, 23, 1, 2, 3, 4, 5, 6, 7, 8, 9, 10, 11] rfl
      refine va_callr (va_runV (As := [.ref (g 1), .int (x1)]) (rest := []) C (c_X1_lookAhead l dC dI cs (fun i => g (44 + i)) (fun i => g (45 + i)) (fun i => g (1 + i)) s.heap.size R N x1 r35 hr35) (cwV 2 hts gX7_purse_X1_lookAhead rfl rfl rfl (by decide +kernel) ⟨Nat.le_of_ble_eq_true rfl, Nat.le_of_ble_eq_true rfl⟩) ⟨(fun a U g mk q => ⟨q.1, q.2.1, q.2.2.1, GE.calling q.2.2.2.1, q.2.2.2.2⟩), va_recv hK hPc (ci := 1) (q0 := 0) rfl rfl, (fun U hU hW => ⟨rfl, by rw [hU], by rw [hU]; exact hPc, GE.warm hW G, hDc.weaken (fun _ _ _ _ => trivial)⟩)⟩ rfl rfl hl.1 rfl (lv_room (Nat.le_of_ble_eq_true rfl)) dX7_purse_35 ⟨Nat.le_of_ble_eq_true rfl, Nat.le_of_ble_eq_true rfl⟩) hS (fun q _ h => hFc q h) hFc (fun u q t H1 locs ht hvm hw hB hz1 hk1 hS => ?_)
      obtain rfl := hw.symm
      obtain ⟨rfl, hP1, hD1⟩ := hB
      rw [ht] at hP1
      obtain ⟨hP, hD⟩ := va_join (wr := [0].filterMap (fun i => ((wB g B ++ wT cs (fun i => g (1 + i)) N ++ wF (g 44) (g 45) ++ wT cs (fun i => g (45 + i)) R))[i]?)) (w1 := (wF (g 44) (g 45) ++ wT cs (fun i => g (45 + i)) r35 ++ wT cs (fun i => g (1 + i)) N)) hP hD [12, 13, 14, 15, 16, 17, 18, 19, 20, 21, 22, 23, 1, 2, 3, 4, 5, 6, 7, 8, 9, 10, 11] [0] rfl rfl (by decide) (by decide) hk1 hFc hP1 hD1
      generalize H1 = H at hP hS ⊢
      have hP := hP.sub (ws' := (wB g B ++ wT cs (fun i => g (1 + i)) N ++ wF (g 44) (g 45) ++ wT cs (fun i => g (45 + i)) r35)) [0, 13, 14, 15, 16, 17, 18, 19, 20, 21, 22, 23, 1, 2, 3, 4, 5, 6, 7, 8, 9, 10, 11, 12] rfl
      have hD := hD.sub (ws' := (wB g B ++ wT cs (fun i => g (1 + i)) N ++ wF (g 44) (g 45) ++ wT cs (fun i => g (45 + i)) r35)) [0, 13, 14, 15, 16, 17, 18, 19, 20, 21, 22, 23, 1, 2, 3, 4, 5, 6, 7, 8, 9, 10, 11, 12] (by decide) rfl
      refine va_get (D := (dC, dI)) (ci := 5) (v := .ref (g 48)) (C := RX5) (T := TX5) (N := 17) hx hb hts in_X7_purse_X5 hown hK hP 13 rfl rfl 9 (by decide) (hts (.fieldLink RX7 157 "BackLoans$Town" "purse" "[I") (by decide +kernel)) (fun _ h9 => h9) rfl dX7_purse_38 ?_
      refine lv_iload_n hx hb dX7_purse_41 rfl (lv_at hl 2 rfl) ?_
      obtain ⟨hi3, hf⟩ := gi_e hf
      refine va_iald hx hb hK hP 16 0 rfl rfl hi3 dX7_purse_42 ?_
      exact hR _ _ _ _ _ _ dX7_purse_43 hf hP hD hS
    · replace hf := it_t c2 hf
      exact b_X7_purse_21 C G hA hR B N R _ _ _ (lv_sub hl [0] rfl) hP hD hS hf

theorem in_X7_loanThen_X5 : ∀ w ∈ wsX50, w ∈ wsX7_loanThen := by decide +kernel
theorem in_X7_loanThen_X7 : ∀ w ∈ wsX70, w ∈ wsX7_loanThen := by decide +kernel
def f_X7_loanThen_30 (B : Nat → Int32) (N : Tw) (R : Tw)  : Option (Int32 × (Nat → Int32) × Tw) :=
  bn (f_X7_bad B) fun r31 =>
  some (r31.1, (r31.2, R))
set_option maxHeartbeats 4000000 in
set_option maxRecDepth 100000 in
theorem b_X7_loanThen_30 {p : Program} {l : Launch} {e : Env} {s : State} {m : MethodId} {args : Array Value} {below : List Frame} {meth : Method} {c : Code} {Q : State → Prop} {dC : Nat → ClassId} {dI : Nat → Nat → Nat} {cs : Nat → ClassId} {A : Nat → Prop} {g : Nat → Nat} {res : Int32 × (Nat → Int32) × Tw} (C : CallFix p m c cX7_loanThen 5 s args wsX7_loanThen RX7) (G : GE dC dI cs s) (hA : ∀ q : Nat, s.heap.size ≤ q → A q) {N : Tw} (hR : RTi p l e ({ frames := 5, cells := 0, slots := 0, locals := 111 }) s m args below meth c cX7_loanThen Q (dC, dI) A (fun u : (Nat → Int32) × Tw => (wB g u.1 ++ wT cs (fun i => g (1 + i)) N ++ wF (g 44) (g 45) ++ wT cs (fun i => g (45 + i)) u.2)) res) (B : Nat → Int32) (_ : Tw) (R : Tw)   (H : Heap) (locs : List Loc) (ls : Array Slot) (hl : lv_has ls 5 [(0, .ref (g 0))]) (hP : va_P (dC, dI) vwCl (wB g B ++ wT cs (fun i => g (1 + i)) N ++ wF (g 44) (g 45) ++ wT cs (fun i => g (45 + i)) R) H) (hD : va_D A (wB g B ++ wT cs (fun i => g (1 + i)) N ++ wF (g 44) (g 45) ++ wT cs (fun i => g (45 + i)) R)) (hS : va_S A s.heap H locs) (hf : f_X7_loanThen_30 B N R = some res) : W p l e ({ frames := 5, cells := 0, slots := 0, locals := 111 }) s m args below meth c H locs 0 0 Q (F0 m 30 ls []) := by
  obtain ⟨hx, hb, hml, hown, hts⟩ := id C
  obtain ⟨hK, hN⟩ := id G
  unfold f_X7_loanThen_30 at hf
  refine lv_aload_n hx hb dX7_loanThen_30 rfl (lv_at hl 0 rfl) ?_
  obtain ⟨r31, hr31, hf⟩ := bn_e hf
  have hPc := hP.sub (ws' := (wB g B)) [0] rfl
  have hDc := hD.sub (ws' := (wB g B)) [0] (by decide) rfl
  have hFc := va_free (wc := (wB g B)) hD hS hA [0] rfl
  refine va_calli (va_runV (As := []) (rest := []) C (c_X7_bad l dC dI cs g H.size B r31 hr31) (cwV 0 hts gX7_loanThen_X7_bad rfl rfl rfl (by decide +kernel) ⟨Nat.le_of_ble_eq_true rfl, Nat.le_of_ble_eq_true rfl⟩) ⟨(fun a U g mk q => ⟨q.1, q.2.1, q.2.2.1, GE.calling q.2.2.2.1, q.2.2.2.2⟩), va_recv hK hPc (ci := 7) (q0 := 0) rfl rfl, (fun U hU hW => ⟨rfl, by rw [hU], by rw [hU]; exact hPc, GE.warm hW G, hDc.weaken (fun _ _ _ _ => trivial)⟩)⟩ rfl rfl hl.1 rfl (lv_room (Nat.le_of_ble_eq_true rfl)) dX7_loanThen_31 ⟨Nat.le_of_ble_eq_true rfl, Nat.le_of_ble_eq_true rfl⟩) hS (fun q _ h => hFc q h) hFc (fun q u t H1 locs ht hvm hw hB hz1 hk1 hS => ?_)
  obtain ⟨rfl, rfl⟩ := hw
  obtain ⟨hP1, hD1⟩ := hB
  rw [ht] at hP1
  obtain ⟨hP, hD⟩ := va_join (wr := [1, 2, 3, 4, 5, 6, 7, 8, 9, 10, 11, 12, 13, 14, 15, 16, 17, 18, 19, 20, 21, 22, 23].filterMap (fun i => ((wB g B ++ wT cs (fun i => g (1 + i)) N ++ wF (g 44) (g 45) ++ wT cs (fun i => g (45 + i)) R))[i]?)) (w1 := (wB g r31.2)) hP hD [0] [1, 2, 3, 4, 5, 6, 7, 8, 9, 10, 11, 12, 13, 14, 15, 16, 17, 18, 19, 20, 21, 22, 23] rfl rfl (by decide) (by decide) hk1 hFc hP1 hD1
  generalize H1 = H at hP hS ⊢
  have hP := hP.sub (ws' := (wB g r31.2 ++ wT cs (fun i => g (1 + i)) N ++ wF (g 44) (g 45) ++ wT cs (fun i => g (45 + i)) R)) [23, 0, 1, 2, 3, 4, 5, 6, 7, 8, 9, 10, 11, 12, 13, 14, 15, 16, 17, 18, 19, 20, 21, 22] rfl
  have hD := hD.sub (ws' := (wB g r31.2 ++ wT cs (fun i => g (1 + i)) N ++ wF (g 44) (g 45) ++ wT cs (fun i => g (45 + i)) R)) [23, 0, 1, 2, 3, 4, 5, 6, 7, 8, 9, 10, 11, 12, 13, 14, 15, 16, 17, 18, 19, 20, 21, 22] (by decide) rfl
  exact hR _ _ _ _ _ _ dX7_loanThen_34 hf hP hD hS
def f_X7_loanThen (x1 : Int32) (x2 : Int32) (x3 : Int32) (B : Nat → Int32) (N : Tw) (R : Tw) : Option (Int32 × (Nat → Int32) × Tw) :=
  bn (f_X7_within x1 (0 : Int32) (60 : Int32)) fun r4 =>
  if r4 = 0 then (
    f_X7_loanThen_30 B N R
  ) else (
    bn (f_X5_hasLoan x2 N) fun r15 =>
    if r15 = 0 then (
      f_X7_loanThen_30 B N R
    ) else (
      bn (f_X7_within x3 (0 : Int32) (1 : Int32)) fun r24 =>
      if r24 = 0 then (
        f_X7_loanThen_30 B N R
      ) else (
        bn (f_X1_lookAhead x1 R N) fun r44 =>
        if x3 = 0 then (
          gi (x2) 8 <|
          some (((r44.2 6) (x2).toNatClampNeg), (B, r44))
        ) else (
          gi (x2) 8 <|
          some (((r44.2 7) (x2).toNatClampNeg), (B, r44))
        )
      )
    )
  )
set_option maxHeartbeats 4000000 in
set_option maxRecDepth 100000 in
theorem c_X7_loanThen (l : Launch) (dC : Nat → ClassId) (dI : Nat → Nat → Nat) (cs : Nat → ClassId) (g : Nat → Nat) (sz : Nat) (B : Nat → Int32) (N : Tw) (R : Tw) (x1 : Int32) (x2 : Int32) (x3 : Int32) (res : Int32 × (Nat → Int32) × Tw) (hf : f_X7_loanThen x1 x2 x3 B N R = some res) : Met l yX7_loanThen wsX7_loanThen ({ frames := 5, cells := 0, slots := 0, locals := 111 }) (va_Pc [.ref (g 0), .int (x1), .int (x2), .int (x3)] (fun U => U.heap.size = sz ∧ va_P (dC, dI) vwCl (wB g B ++ wT cs (fun i => g (1 + i)) N ++ wF (g 44) (g 45) ++ wT cs (fun i => g (45 + i)) R) U.heap ∧ GE dC dI cs U ∧ va_D (fun _ => True) (wB g B ++ wT cs (fun i => g (1 + i)) N ++ wF (g 44) (g 45) ++ wT cs (fun i => g (45 + i)) R))) (va_Qi (fun r (u : (Nat → Int32) × Tw) => r = res.1 ∧ u = res.2) (fun u t => va_P (dC, dI) vwCl ((fun u : (Nat → Int32) × Tw => (wB g u.1 ++ wT cs (fun i => g (1 + i)) N ++ wF (g 44) (g 45) ++ wT cs (fun i => g (45 + i)) u.2)) u) t.heap ∧ va_D (va_A (wB g B ++ wT cs (fun i => g (1 + i)) N ++ wF (g 44) (g 45) ++ wT cs (fun i => g (45 + i)) R) sz) ((fun u : (Nat → Int32) × Tw => (wB g u.1 ++ wT cs (fun i => g (1 + i)) N ++ wF (g 44) (g 45) ++ wT cs (fun i => g (45 + i)) u.2)) u)) (va_A (wB g B ++ wT cs (fun i => g (1 + i)) N ++ wF (g 44) (g 45) ++ wT cs (fun i => g (45 + i)) R) sz)) 0 0 (va_A (wB g B ++ wT cs (fun i => g (1 + i)) N ++ wF (g 44) (g 45) ++ wT cs (fun i => g (45 + i)) R) sz) := by
  refine Met.ofW (cc := cX7_loanThen) (maxL := 5) (ret := (some .int)) (by decide) rfl ?_
  intro p e s m args below meth c s₁ Bd hml hv
  obtain ⟨rfl, hsz, hP, G, hD0⟩ := hv
  have hts := atoms_spec (ws := wsX7_loanThen) Bd.pre
  have hown : s.vm.findClass RX7 = some m.cls := findClass_of_methodNamed Bd.named
  have hlocks := Bd.notSynchronized
  have hx := Bd.exec
  have hb := Bd.bytes
  have hr := Bd.returns
  have C : CallFix p m c cX7_loanThen 5 s _ wsX7_loanThen RX7 := ⟨hx, hb, hml, hown, hts⟩
  obtain ⟨hK, hN⟩ := id G
  subst hsz
  have hD := hD0.self (sz := s.heap.size)
  generalize hAe : va_A (wB g B ++ wT cs (fun i => g (1 + i)) N ++ wF (g 44) (g 45) ++ wT cs (fun i => g (45 + i)) R) s.heap.size = A at hD ⊢
  have hA : ∀ q : Nat, s.heap.size ≤ q → A q := fun q h => by rw [← hAe]; exact Or.inr h
  have hS : va_S A s.heap s.heap [] := va_S.rf
  have hR : RTi p l e ({ frames := 5, cells := 0, slots := 0, locals := 111 }) s m ([.ref (g 0), .int (x1), .int (x2), .int (x3)] : List Value).toArray below meth c cX7_loanThen (MQ below (va_Qi (fun r (u : (Nat → Int32) × Tw) => r = res.1 ∧ u = res.2) (fun u t => va_P (dC, dI) vwCl ((fun u : (Nat → Int32) × Tw => (wB g u.1 ++ wT cs (fun i => g (1 + i)) N ++ wF (g 44) (g 45) ++ wT cs (fun i => g (45 + i)) u.2)) u) t.heap ∧ va_D A ((fun u : (Nat → Int32) × Tw => (wB g u.1 ++ wT cs (fun i => g (1 + i)) N ++ wF (g 44) (g 45) ++ wT cs (fun i => g (45 + i)) u.2)) u)) A) ([.ref (g 0), .int (x1), .int (x2), .int (x3)] : List Value).toArray s 0 0 A) (dC, dI) A (fun u : (Nat → Int32) × Tw => (wB g u.1 ++ wT cs (fun i => g (1 + i)) N ++ wF (g 44) (g 45) ++ wT cs (fun i => g (45 + i)) u.2)) res := fun H locs pc ls r u dd h hP hD hS => W.iret hx hb hr (fun t ht hW => ⟨⟨r, u, rfl, by cases h; exact ⟨rfl, rfl⟩, by rw [ht]; exact hP, hD⟩, hS.F ht⟩) hS.2.2 dd
  have hl := lv_entry ([.ref (g 0), .int (x1), .int (x2), .int (x3)]) (n := 5) (Nat.le_of_ble_eq_true rfl)
  rw [lg_entry_eq]
  generalize (lg_sl ([.ref (g 0), .int (x1), .int (x2), .int (x3)]) ++ List.replicate (5 - (lg_sl ([.ref (g 0), .int (x1), .int (x2), .int (x3)])).length) Slot.unset).toArray = ls at hl ⊢
  have hl : lv_has ls 5 [(0, .ref (g 0)), (1, .int (x1)), (2, .int (x2)), (3, .int (x3))] := hl
  unfold f_X7_loanThen at hf
  refine lv_iload_n hx hb dX7_loanThen_0 rfl (lv_at hl 1 rfl) ?_
  refine lv_iconst (v := 0) hx hb dX7_loanThen_1 (by decide) ?_
  refine lv_bipush (v := 60) hx hb dX7_loanThen_2 (by decide) ?_
  obtain ⟨r4, hr4, hf⟩ := bn_e hf
  have hPc := hP.sub (ws' := ([] : va_W)) [] rfl
  refine vp_callSi (W.runS (As := [.int (x1), .int ((0 : Int32)), .int ((60 : Int32))]) (rest := []) C (c_X7_within l dC dI cs x1 (0 : Int32) (60 : Int32) r4 hr4) (va_cwS 3 hts gX7_loanThen_X7_within rfl rfl rfl (by decide +kernel) ⟨Nat.le_of_ble_eq_true rfl, Nat.le_of_ble_eq_true rfl⟩) ⟨(fun a U g mk q => ⟨q.1, q.2.1, GE.calling q.2.2⟩), (fun U hU hW => ⟨rfl, by rw [hU]; exact hPc, GE.warm hW G⟩)⟩ rfl rfl hl.1 rfl (lv_room (Nat.le_of_ble_eq_true rfl)) dX7_loanThen_4 ⟨Nat.le_of_ble_eq_true rfl, Nat.le_of_ble_eq_true rfl⟩) (fun qr4 hqr4 => ?_)
  obtain ⟨hqr4, hnr4⟩ := hqr4
  obtain rfl := hqr4.symm
  refine lv_if_eq (tgt := 30) hx hb dX7_loanThen_7 (by decide) (fun c1 => ?_) (fun c1 => ?_)
  · replace hf := it_t c1 hf
    exact b_X7_loanThen_30 C G hA hR B N R _ _ _ (lv_sub hl [0] rfl) hP hD hS hf
  · replace hf := it_f c1 hf
    refine lv_aload_n hx hb dX7_loanThen_10 rfl (lv_at hl 0 rfl) ?_
    refine va_get (D := (dC, dI)) (ci := 7) (v := .ref (g 1)) (C := RX7) (T := TX7) (N := 11) hx hb hts in_X7_loanThen_X7 hown hK hP 0 rfl rfl 0 (by decide) (hts (.fieldLink RX7 10 "BackLoans" "now" "LBackLoans$Town;") (by decide +kernel)) (fun _ h9 => h9) rfl dX7_loanThen_11 ?_
    refine lv_iload_n hx hb dX7_loanThen_14 rfl (lv_at hl 2 rfl) ?_
    obtain ⟨r15, hr15, hf⟩ := bn_e hf
    have hPc := hP.sub (ws' := (wT cs (fun i => g (1 + i)) N)) [1, 2, 3, 4, 5, 6, 7, 8, 9, 10, 11] rfl
    refine vp_callSi (W.runV (As := [.int (x2)]) (rest := []) C (c_X5_hasLoan l dC dI cs (fun i => g (1 + i)) N x2 r15 hr15) (cwV 1 hts gX7_loanThen_X5_hasLoan rfl rfl rfl (by decide +kernel) ⟨Nat.le_of_ble_eq_true rfl, Nat.le_of_ble_eq_true rfl⟩) ⟨(fun a U g mk q => ⟨q.1, q.2.1, GE.calling q.2.2⟩), va_recv hK hPc (ci := 5) (q0 := 0) rfl rfl, (fun U hU hW => ⟨rfl, by rw [hU]; exact hPc, GE.warm hW G⟩)⟩ rfl rfl hl.1 rfl (lv_room (Nat.le_of_ble_eq_true rfl)) dX7_loanThen_15 ⟨Nat.le_of_ble_eq_true rfl, Nat.le_of_ble_eq_true rfl⟩) (fun qr15 hqr15 => ?_)
    obtain ⟨hqr15, hnr15⟩ := hqr15
    obtain rfl := hqr15.symm
    refine lv_if_eq (tgt := 30) hx hb dX7_loanThen_18 (by decide) (fun c2 => ?_) (fun c2 => ?_)
    · replace hf := it_t c2 hf
      exact b_X7_loanThen_30 C G hA hR B N R _ _ _ (lv_sub hl [0] rfl) hP hD hS hf
    · replace hf := it_f c2 hf
      refine lv_iload_n hx hb dX7_loanThen_21 rfl (lv_at hl 3 rfl) ?_
      refine lv_iconst (v := 0) hx hb dX7_loanThen_22 (by decide) ?_
      refine lv_iconst (v := 1) hx hb dX7_loanThen_23 (by decide) ?_
      obtain ⟨r24, hr24, hf⟩ := bn_e hf
      have hPc := hP.sub (ws' := ([] : va_W)) [] rfl
      refine vp_callSi (W.runS (As := [.int (x3), .int ((0 : Int32)), .int ((1 : Int32))]) (rest := []) C (c_X7_within l dC dI cs x3 (0 : Int32) (1 : Int32) r24 hr24) (va_cwS 3 hts gX7_loanThen_X7_within rfl rfl rfl (by decide +kernel) ⟨Nat.le_of_ble_eq_true rfl, Nat.le_of_ble_eq_true rfl⟩) ⟨(fun a U g mk q => ⟨q.1, q.2.1, GE.calling q.2.2⟩), (fun U hU hW => ⟨rfl, by rw [hU]; exact hPc, GE.warm hW G⟩)⟩ rfl rfl hl.1 rfl (lv_room (Nat.le_of_ble_eq_true rfl)) dX7_loanThen_24 ⟨Nat.le_of_ble_eq_true rfl, Nat.le_of_ble_eq_true rfl⟩) (fun qr24 hqr24 => ?_)
      obtain ⟨hqr24, hnr24⟩ := hqr24
      obtain rfl := hqr24.symm
      refine lv_if_ne (tgt := 35) hx hb dX7_loanThen_27 (by decide) (fun c3 => ?_) (fun c3 => ?_)
      · replace hf := it_f c3 hf
        refine lv_aload_n hx hb dX7_loanThen_35 rfl (lv_at hl 0 rfl) ?_
        refine va_get (D := (dC, dI)) (ci := 7) (v := .ref (g 44)) (C := RX7) (T := TX7) (N := 11) hx hb hts in_X7_loanThen_X7 hown hK hP 0 rfl rfl 5 (by decide) (hts (.fieldLink RX7 43 "BackLoans" "foresight" "LBackLoans$Foresight;") (by decide +kernel)) (fun _ h9 => h9) rfl dX7_loanThen_36 ?_
        refine lv_aload_n hx hb dX7_loanThen_39 rfl (lv_at hl 0 rfl) ?_
        refine va_get (D := (dC, dI)) (ci := 7) (v := .ref (g 1)) (C := RX7) (T := TX7) (N := 11) hx hb hts in_X7_loanThen_X7 hown hK hP 0 rfl rfl 0 (by decide) (hts (.fieldLink RX7 10 "BackLoans" "now" "LBackLoans$Town;") (by decide +kernel)) (fun _ h9 => h9) rfl dX7_loanThen_40 ?_
        refine lv_iload_n hx hb dX7_loanThen_43 rfl (lv_at hl 1 rfl) ?_
        obtain ⟨r44, hr44, hf⟩ := bn_e hf
        have hPc := hP.sub (ws' := (wF (g 44) (g 45) ++ wT cs (fun i => g (45 + i)) R ++ wT cs (fun i => g (1 + i)) N)) [12, 13, 14, 15, 16, 17, 18, 19, 20, 21, 22, 23, 1, 2, 3, 4, 5, 6, 7, 8, 9, 10, 11] rfl
        have hDc := hD.sub (ws' := (wF (g 44) (g 45) ++ wT cs (fun i => g (45 + i)) R ++ wT cs (fun i => g (1 + i)) N)) [12, 13, 14, 15, 16, 17, 18, 19, 20, 21, 22, 23, 1, 2, 3, 4, 5, 6, 7, 8, 9, 10, 11] (by decide) rfl
        have hFc := va_free (wc := (wF (g 44) (g 45) ++ wT cs (fun i => g (45 + i)) R ++ wT cs (fun i => g (1 + i)) N)) hD hS hA [12, 13, 14, 15, 16, 17, 18, 19, 20, 21, 22, 23, 1, 2, 3, 4, 5, 6, 7, 8, 9, 10, 11] rfl
        refine va_callr (va_runV (As := [.ref (g 1), .int (x1)]) (rest := []) C (c_X1_lookAhead l dC dI cs (fun i => g (44 + i)) (fun i => g (45 + i)) (fun i => g (1 + i)) s.heap.size R N x1 r44 hr44) (cwV 2 hts gX7_loanThen_X1_lookAhead rfl rfl rfl (by decide +kernel) ⟨Nat.le_of_ble_eq_true rfl, Nat.le_of_ble_eq_true rfl⟩) ⟨(fun a U g mk q => ⟨q.1, q.2.1, q.2.2.1, GE.calling q.2.2.2.1, q.2.2.2.2⟩), va_recv hK hPc (ci := 1) (q0 := 0) rfl rfl, (fun U hU hW => ⟨rfl, by rw [hU], by rw [hU]; exact hPc, GE.warm hW G, hDc.weaken (fun _ _ _ _ => trivial)⟩)⟩ rfl rfl hl.1 rfl (lv_room (Nat.le_of_ble_eq_true rfl)) dX7_loanThen_44 ⟨Nat.le_of_ble_eq_true rfl, Nat.le_of_ble_eq_true rfl⟩) hS (fun q _ h => hFc q h) hFc (fun u q t H1 locs ht hvm hw hB hz1 hk1 hS => ?_)
        obtain rfl := hw.symm
        obtain ⟨rfl, hP1, hD1⟩ := hB
        rw [ht] at hP1
        obtain ⟨hP, hD⟩ := va_join (wr := [0].filterMap (fun i => ((wB g B ++ wT cs (fun i => g (1 + i)) N ++ wF (g 44) (g 45) ++ wT cs (fun i => g (45 + i)) R))[i]?)) (w1 := (wF (g 44) (g 45) ++ wT cs (fun i => g (45 + i)) r44 ++ wT cs (fun i => g (1 + i)) N)) hP hD [12, 13, 14, 15, 16, 17, 18, 19, 20, 21, 22, 23, 1, 2, 3, 4, 5, 6, 7, 8, 9, 10, 11] [0] rfl rfl (by decide) (by decide) hk1 hFc hP1 hD1
        generalize H1 = H at hP hS ⊢
        have hP := hP.sub (ws' := (wB g B ++ wT cs (fun i => g (1 + i)) N ++ wF (g 44) (g 45) ++ wT cs (fun i => g (45 + i)) r44)) [0, 13, 14, 15, 16, 17, 18, 19, 20, 21, 22, 23, 1, 2, 3, 4, 5, 6, 7, 8, 9, 10, 11, 12] rfl
        have hD := hD.sub (ws' := (wB g B ++ wT cs (fun i => g (1 + i)) N ++ wF (g 44) (g 45) ++ wT cs (fun i => g (45 + i)) r44)) [0, 13, 14, 15, 16, 17, 18, 19, 20, 21, 22, 23, 1, 2, 3, 4, 5, 6, 7, 8, 9, 10, 11, 12] (by decide) rfl
        refine lv_astore (lv' := [(4, .ref (g 45)), (0, .ref (g 0)), (1, .int (x1)), (2, .int (x2)), (3, .int (x3))]) hx hb dX7_loanThen_47 hl (by decide) rfl (fun ls hl => ?_)
        refine lv_iload_n hx hb dX7_loanThen_49 rfl (lv_at hl 4 rfl) ?_
        refine lv_if_ne (tgt := 63) hx hb dX7_loanThen_50 (by decide) (fun c4 => ?_) (fun c4 => ?_)
        · replace hf := it_f c4 hf
          refine lv_aload hx hb dX7_loanThen_63 (lv_at hl 0 rfl) ?_
          refine va_get (D := (dC, dI)) (ci := 5) (v := .ref (g 53)) (C := RX5) (T := TX5) (N := 17) hx hb hts in_X7_loanThen_X5 hown hK hP 13 rfl rfl 14 (by decide) (hts (.fieldLink RX7 183 "BackLoans$Town" "given" "[I") (by decide +kernel)) (fun _ h9 => h9) rfl dX7_loanThen_65 ?_
          refine lv_iload_n hx hb dX7_loanThen_68 rfl (lv_at hl 3 rfl) ?_
          obtain ⟨hi5, hf⟩ := gi_e hf
          refine va_iald hx hb hK hP 21 0 rfl rfl hi5 dX7_loanThen_69 ?_
          exact hR _ _ _ _ _ _ dX7_loanThen_70 hf hP hD hS
        · replace hf := it_t c4 hf
          refine lv_aload hx hb dX7_loanThen_53 (lv_at hl 0 rfl) ?_
          refine va_get (D := (dC, dI)) (ci := 5) (v := .ref (g 52)) (C := RX5) (T := TX5) (N := 17) hx hb hts in_X7_loanThen_X5 hown hK hP 13 rfl rfl 13 (by decide) (hts (.fieldLink RX7 150 "BackLoans$Town" "state" "[I") (by decide +kernel)) (fun _ h9 => h9) rfl dX7_loanThen_55 ?_
          refine lv_iload_n hx hb dX7_loanThen_58 rfl (lv_at hl 3 rfl) ?_
          obtain ⟨hi6, hf⟩ := gi_e hf
          refine va_iald hx hb hK hP 20 0 rfl rfl hi6 dX7_loanThen_59 ?_
          refine lv_goto (tgt := 70) hx hb dX7_loanThen_60 (by decide) ?_
          exact hR _ _ _ _ _ _ dX7_loanThen_70 hf hP hD hS
      · replace hf := it_t c3 hf
        exact b_X7_loanThen_30 C G hA hR B N R _ _ _ (lv_sub hl [0] rfl) hP hD hS hf

theorem in_X7_lack_X5 : ∀ w ∈ wsX50, w ∈ wsX7_lack := by decide +kernel
theorem in_X7_lack_X7 : ∀ w ∈ wsX70, w ∈ wsX7_lack := by decide +kernel
def f_X7_lack (x1 : Int32) (B : Nat → Int32) (N : Tw) (R : Tw) : Option (Int32 × (Nat → Int32) × Tw) :=
  bn (f_X7_within x1 (0 : Int32) (60 : Int32)) fun r4 =>
  if r4 = 0 then (
    bn (f_X7_bad B) fun r11 =>
    some (r11.1, (r11.2, R))
  ) else (
    bn (f_X1_firstLack (N.1 0) x1 R N) fun r31 =>
    some (r31.1, (B, r31.2))
  )
set_option maxHeartbeats 4000000 in
set_option maxRecDepth 100000 in
theorem c_X7_lack (l : Launch) (dC : Nat → ClassId) (dI : Nat → Nat → Nat) (cs : Nat → ClassId) (g : Nat → Nat) (sz : Nat) (B : Nat → Int32) (N : Tw) (R : Tw) (x1 : Int32) (res : Int32 × (Nat → Int32) × Tw) (hf : f_X7_lack x1 B N R = some res) : Met l yX7_lack wsX7_lack ({ frames := 5, cells := 0, slots := 0, locals := 112 }) (va_Pc [.ref (g 0), .int (x1)] (fun U => U.heap.size = sz ∧ va_P (dC, dI) vwCl (wB g B ++ wT cs (fun i => g (1 + i)) N ++ wF (g 44) (g 45) ++ wT cs (fun i => g (45 + i)) R) U.heap ∧ GE dC dI cs U ∧ va_D (fun _ => True) (wB g B ++ wT cs (fun i => g (1 + i)) N ++ wF (g 44) (g 45) ++ wT cs (fun i => g (45 + i)) R))) (va_Qi (fun r (u : (Nat → Int32) × Tw) => r = res.1 ∧ u = res.2) (fun u t => va_P (dC, dI) vwCl ((fun u : (Nat → Int32) × Tw => (wB g u.1 ++ wT cs (fun i => g (1 + i)) N ++ wF (g 44) (g 45) ++ wT cs (fun i => g (45 + i)) u.2)) u) t.heap ∧ va_D (va_A (wB g B ++ wT cs (fun i => g (1 + i)) N ++ wF (g 44) (g 45) ++ wT cs (fun i => g (45 + i)) R) sz) ((fun u : (Nat → Int32) × Tw => (wB g u.1 ++ wT cs (fun i => g (1 + i)) N ++ wF (g 44) (g 45) ++ wT cs (fun i => g (45 + i)) u.2)) u)) (va_A (wB g B ++ wT cs (fun i => g (1 + i)) N ++ wF (g 44) (g 45) ++ wT cs (fun i => g (45 + i)) R) sz)) 0 0 (va_A (wB g B ++ wT cs (fun i => g (1 + i)) N ++ wF (g 44) (g 45) ++ wT cs (fun i => g (45 + i)) R) sz) := by
  refine Met.ofW (cc := cX7_lack) (maxL := 2) (ret := (some .int)) (by decide) rfl ?_
  intro p e s m args below meth c s₁ Bd hml hv
  obtain ⟨rfl, hsz, hP, G, hD0⟩ := hv
  have hts := atoms_spec (ws := wsX7_lack) Bd.pre
  have hown : s.vm.findClass RX7 = some m.cls := findClass_of_methodNamed Bd.named
  have hlocks := Bd.notSynchronized
  have hx := Bd.exec
  have hb := Bd.bytes
  have hr := Bd.returns
  have C : CallFix p m c cX7_lack 2 s _ wsX7_lack RX7 := ⟨hx, hb, hml, hown, hts⟩
  obtain ⟨hK, hN⟩ := id G
  subst hsz
  have hD := hD0.self (sz := s.heap.size)
  generalize hAe : va_A (wB g B ++ wT cs (fun i => g (1 + i)) N ++ wF (g 44) (g 45) ++ wT cs (fun i => g (45 + i)) R) s.heap.size = A at hD ⊢
  have hA : ∀ q : Nat, s.heap.size ≤ q → A q := fun q h => by rw [← hAe]; exact Or.inr h
  have hS : va_S A s.heap s.heap [] := va_S.rf
  have hR : RTi p l e ({ frames := 5, cells := 0, slots := 0, locals := 112 }) s m ([.ref (g 0), .int (x1)] : List Value).toArray below meth c cX7_lack (MQ below (va_Qi (fun r (u : (Nat → Int32) × Tw) => r = res.1 ∧ u = res.2) (fun u t => va_P (dC, dI) vwCl ((fun u : (Nat → Int32) × Tw => (wB g u.1 ++ wT cs (fun i => g (1 + i)) N ++ wF (g 44) (g 45) ++ wT cs (fun i => g (45 + i)) u.2)) u) t.heap ∧ va_D A ((fun u : (Nat → Int32) × Tw => (wB g u.1 ++ wT cs (fun i => g (1 + i)) N ++ wF (g 44) (g 45) ++ wT cs (fun i => g (45 + i)) u.2)) u)) A) ([.ref (g 0), .int (x1)] : List Value).toArray s 0 0 A) (dC, dI) A (fun u : (Nat → Int32) × Tw => (wB g u.1 ++ wT cs (fun i => g (1 + i)) N ++ wF (g 44) (g 45) ++ wT cs (fun i => g (45 + i)) u.2)) res := fun H locs pc ls r u dd h hP hD hS => W.iret hx hb hr (fun t ht hW => ⟨⟨r, u, rfl, by cases h; exact ⟨rfl, rfl⟩, by rw [ht]; exact hP, hD⟩, hS.F ht⟩) hS.2.2 dd
  have hl := lv_entry ([.ref (g 0), .int (x1)]) (n := 2) (Nat.le_of_ble_eq_true rfl)
  rw [lg_entry_eq]
  generalize (lg_sl ([.ref (g 0), .int (x1)]) ++ List.replicate (2 - (lg_sl ([.ref (g 0), .int (x1)])).length) Slot.unset).toArray = ls at hl ⊢
  have hl : lv_has ls 2 [(0, .ref (g 0)), (1, .int (x1))] := hl
  unfold f_X7_lack at hf
  refine lv_iload_n hx hb dX7_lack_0 rfl (lv_at hl 1 rfl) ?_
  refine lv_iconst (v := 0) hx hb dX7_lack_1 (by decide) ?_
  refine lv_bipush (v := 60) hx hb dX7_lack_2 (by decide) ?_
  obtain ⟨r4, hr4, hf⟩ := bn_e hf
  have hPc := hP.sub (ws' := ([] : va_W)) [] rfl
  refine vp_callSi (W.runS (As := [.int (x1), .int ((0 : Int32)), .int ((60 : Int32))]) (rest := []) C (c_X7_within l dC dI cs x1 (0 : Int32) (60 : Int32) r4 hr4) (va_cwS 3 hts gX7_lack_X7_within rfl rfl rfl (by decide +kernel) ⟨Nat.le_of_ble_eq_true rfl, Nat.le_of_ble_eq_true rfl⟩) ⟨(fun a U g mk q => ⟨q.1, q.2.1, GE.calling q.2.2⟩), (fun U hU hW => ⟨rfl, by rw [hU]; exact hPc, GE.warm hW G⟩)⟩ rfl rfl hl.1 rfl (lv_room (Nat.le_of_ble_eq_true rfl)) dX7_lack_4 ⟨Nat.le_of_ble_eq_true rfl, Nat.le_of_ble_eq_true rfl⟩) (fun qr4 hqr4 => ?_)
  obtain ⟨hqr4, hnr4⟩ := hqr4
  obtain rfl := hqr4.symm
  refine lv_if_ne (tgt := 15) hx hb dX7_lack_7 (by decide) (fun c1 => ?_) (fun c1 => ?_)
  · replace hf := it_f c1 hf
    refine lv_aload_n hx hb dX7_lack_15 rfl (lv_at hl 0 rfl) ?_
    refine va_get (D := (dC, dI)) (ci := 7) (v := .ref (g 44)) (C := RX7) (T := TX7) (N := 11) hx hb hts in_X7_lack_X7 hown hK hP 0 rfl rfl 5 (by decide) (hts (.fieldLink RX7 43 "BackLoans" "foresight" "LBackLoans$Foresight;") (by decide +kernel)) (fun _ h9 => h9) rfl dX7_lack_16 ?_
    refine lv_aload_n hx hb dX7_lack_19 rfl (lv_at hl 0 rfl) ?_
    refine va_get (D := (dC, dI)) (ci := 7) (v := .ref (g 1)) (C := RX7) (T := TX7) (N := 11) hx hb hts in_X7_lack_X7 hown hK hP 0 rfl rfl 0 (by decide) (hts (.fieldLink RX7 10 "BackLoans" "now" "LBackLoans$Town;") (by decide +kernel)) (fun _ h9 => h9) rfl dX7_lack_20 ?_
    refine lv_aload_n hx hb dX7_lack_23 rfl (lv_at hl 0 rfl) ?_
    refine va_get (D := (dC, dI)) (ci := 7) (v := .ref (g 1)) (C := RX7) (T := TX7) (N := 11) hx hb hts in_X7_lack_X7 hown hK hP 0 rfl rfl 0 (by decide) (hts (.fieldLink RX7 10 "BackLoans" "now" "LBackLoans$Town;") (by decide +kernel)) (fun _ h9 => h9) rfl dX7_lack_24 ?_
    refine va_get (D := (dC, dI)) (ci := 5) (v := .int ((N.1 0))) (C := RX5) (T := TX5) (N := 17) hx hb hts in_X7_lack_X5 hown hK hP 1 rfl rfl 0 (by decide) (hts (.fieldLink RX7 70 "BackLoans$Town" "chest" "I") (by decide +kernel)) (fun _ h9 => h9) rfl dX7_lack_27 ?_
    refine lv_iload_n hx hb dX7_lack_30 rfl (lv_at hl 1 rfl) ?_
    obtain ⟨r31, hr31, hf⟩ := bn_e hf
    have hPc := hP.sub (ws' := (wF (g 44) (g 45) ++ wT cs (fun i => g (45 + i)) R ++ wT cs (fun i => g (1 + i)) N)) [12, 13, 14, 15, 16, 17, 18, 19, 20, 21, 22, 23, 1, 2, 3, 4, 5, 6, 7, 8, 9, 10, 11] rfl
    have hDc := hD.sub (ws' := (wF (g 44) (g 45) ++ wT cs (fun i => g (45 + i)) R ++ wT cs (fun i => g (1 + i)) N)) [12, 13, 14, 15, 16, 17, 18, 19, 20, 21, 22, 23, 1, 2, 3, 4, 5, 6, 7, 8, 9, 10, 11] (by decide) rfl
    have hFc := va_free (wc := (wF (g 44) (g 45) ++ wT cs (fun i => g (45 + i)) R ++ wT cs (fun i => g (1 + i)) N)) hD hS hA [12, 13, 14, 15, 16, 17, 18, 19, 20, 21, 22, 23, 1, 2, 3, 4, 5, 6, 7, 8, 9, 10, 11] rfl
    refine va_calli (va_runV (As := [.ref (g 1), .int ((N.1 0)), .int (x1)]) (rest := []) C (c_X1_firstLack l dC dI cs (fun i => g (44 + i)) (fun i => g (45 + i)) (fun i => g (1 + i)) s.heap.size R N (N.1 0) x1 r31 hr31) (cwV 3 hts gX7_lack_X1_firstLack rfl rfl rfl (by decide +kernel) ⟨Nat.le_of_ble_eq_true rfl, Nat.le_of_ble_eq_true rfl⟩) ⟨(fun a U g mk q => ⟨q.1, q.2.1, q.2.2.1, GE.calling q.2.2.2.1, q.2.2.2.2⟩), va_recv hK hPc (ci := 1) (q0 := 0) rfl rfl, (fun U hU hW => ⟨rfl, by rw [hU], by rw [hU]; exact hPc, GE.warm hW G, hDc.weaken (fun _ _ _ _ => trivial)⟩)⟩ rfl rfl hl.1 rfl (lv_room (Nat.le_of_ble_eq_true rfl)) dX7_lack_31 ⟨Nat.le_of_ble_eq_true rfl, Nat.le_of_ble_eq_true rfl⟩) hS (fun q _ h => hFc q h) hFc (fun q u t H1 locs ht hvm hw hB hz1 hk1 hS => ?_)
    obtain ⟨rfl, rfl⟩ := hw
    obtain ⟨hP1, hD1⟩ := hB
    rw [ht] at hP1
    obtain ⟨hP, hD⟩ := va_join (wr := [0].filterMap (fun i => ((wB g B ++ wT cs (fun i => g (1 + i)) N ++ wF (g 44) (g 45) ++ wT cs (fun i => g (45 + i)) R))[i]?)) (w1 := (wF (g 44) (g 45) ++ wT cs (fun i => g (45 + i)) r31.2 ++ wT cs (fun i => g (1 + i)) N)) hP hD [12, 13, 14, 15, 16, 17, 18, 19, 20, 21, 22, 23, 1, 2, 3, 4, 5, 6, 7, 8, 9, 10, 11] [0] rfl rfl (by decide) (by decide) hk1 hFc hP1 hD1
    generalize H1 = H at hP hS ⊢
    have hP := hP.sub (ws' := (wB g B ++ wT cs (fun i => g (1 + i)) N ++ wF (g 44) (g 45) ++ wT cs (fun i => g (45 + i)) r31.2)) [0, 13, 14, 15, 16, 17, 18, 19, 20, 21, 22, 23, 1, 2, 3, 4, 5, 6, 7, 8, 9, 10, 11, 12] rfl
    have hD := hD.sub (ws' := (wB g B ++ wT cs (fun i => g (1 + i)) N ++ wF (g 44) (g 45) ++ wT cs (fun i => g (45 + i)) r31.2)) [0, 13, 14, 15, 16, 17, 18, 19, 20, 21, 22, 23, 1, 2, 3, 4, 5, 6, 7, 8, 9, 10, 11, 12] (by decide) rfl
    exact hR _ _ _ _ _ _ dX7_lack_34 hf hP hD hS
  · replace hf := it_t c1 hf
    refine lv_aload_n hx hb dX7_lack_10 rfl (lv_at hl 0 rfl) ?_
    obtain ⟨r11, hr11, hf⟩ := bn_e hf
    have hPc := hP.sub (ws' := (wB g B)) [0] rfl
    have hDc := hD.sub (ws' := (wB g B)) [0] (by decide) rfl
    have hFc := va_free (wc := (wB g B)) hD hS hA [0] rfl
    refine va_calli (va_runV (As := []) (rest := []) C (c_X7_bad l dC dI cs g s.heap.size B r11 hr11) (cwV 0 hts gX7_lack_X7_bad rfl rfl rfl (by decide +kernel) ⟨Nat.le_of_ble_eq_true rfl, Nat.le_of_ble_eq_true rfl⟩) ⟨(fun a U g mk q => ⟨q.1, q.2.1, q.2.2.1, GE.calling q.2.2.2.1, q.2.2.2.2⟩), va_recv hK hPc (ci := 7) (q0 := 0) rfl rfl, (fun U hU hW => ⟨rfl, by rw [hU], by rw [hU]; exact hPc, GE.warm hW G, hDc.weaken (fun _ _ _ _ => trivial)⟩)⟩ rfl rfl hl.1 rfl (lv_room (Nat.le_of_ble_eq_true rfl)) dX7_lack_11 ⟨Nat.le_of_ble_eq_true rfl, Nat.le_of_ble_eq_true rfl⟩) hS (fun q _ h => hFc q h) hFc (fun q u t H1 locs ht hvm hw hB hz1 hk1 hS => ?_)
    obtain ⟨rfl, rfl⟩ := hw
    obtain ⟨hP1, hD1⟩ := hB
    rw [ht] at hP1
    obtain ⟨hP, hD⟩ := va_join (wr := [1, 2, 3, 4, 5, 6, 7, 8, 9, 10, 11, 12, 13, 14, 15, 16, 17, 18, 19, 20, 21, 22, 23].filterMap (fun i => ((wB g B ++ wT cs (fun i => g (1 + i)) N ++ wF (g 44) (g 45) ++ wT cs (fun i => g (45 + i)) R))[i]?)) (w1 := (wB g r11.2)) hP hD [0] [1, 2, 3, 4, 5, 6, 7, 8, 9, 10, 11, 12, 13, 14, 15, 16, 17, 18, 19, 20, 21, 22, 23] rfl rfl (by decide) (by decide) hk1 hFc hP1 hD1
    generalize H1 = H at hP hS ⊢
    have hP := hP.sub (ws' := (wB g r11.2 ++ wT cs (fun i => g (1 + i)) N ++ wF (g 44) (g 45) ++ wT cs (fun i => g (45 + i)) R)) [23, 0, 1, 2, 3, 4, 5, 6, 7, 8, 9, 10, 11, 12, 13, 14, 15, 16, 17, 18, 19, 20, 21, 22] rfl
    have hD := hD.sub (ws' := (wB g r11.2 ++ wT cs (fun i => g (1 + i)) N ++ wF (g 44) (g 45) ++ wT cs (fun i => g (45 + i)) R)) [23, 0, 1, 2, 3, 4, 5, 6, 7, 8, 9, 10, 11, 12, 13, 14, 15, 16, 17, 18, 19, 20, 21, 22] (by decide) rfl
    exact hR _ _ _ _ _ _ dX7_lack_14 hf hP hD hS

theorem in_X7_holds_X7 : ∀ w ∈ wsX70, w ∈ wsX7_holds := by decide +kernel
def f_X7_holds (x1 : Int32) (B : Nat → Int32) (N : Tw) (R : Tw) : Option (Int32 × (Nat → Int32) × Tw) :=
  bn (f_X7_within x1 (0 : Int32) (60 : Int32)) fun r4 =>
  if r4 = 0 then (
    bn (f_X7_bad B) fun r11 =>
    some (r11.1, (r11.2, R))
  ) else (
    bn (f_X1_leastChest x1 R N) fun r24 =>
    some (r24.1, (B, r24.2))
  )
set_option maxHeartbeats 4000000 in
set_option maxRecDepth 100000 in
theorem c_X7_holds (l : Launch) (dC : Nat → ClassId) (dI : Nat → Nat → Nat) (cs : Nat → ClassId) (g : Nat → Nat) (sz : Nat) (B : Nat → Int32) (N : Tw) (R : Tw) (x1 : Int32) (res : Int32 × (Nat → Int32) × Tw) (hf : f_X7_holds x1 B N R = some res) : Met l yX7_holds wsX7_holds ({ frames := 6, cells := 0, slots := 0, locals := 138 }) (va_Pc [.ref (g 0), .int (x1)] (fun U => U.heap.size = sz ∧ va_P (dC, dI) vwCl (wB g B ++ wT cs (fun i => g (1 + i)) N ++ wF (g 44) (g 45) ++ wT cs (fun i => g (45 + i)) R) U.heap ∧ GE dC dI cs U ∧ va_D (fun _ => True) (wB g B ++ wT cs (fun i => g (1 + i)) N ++ wF (g 44) (g 45) ++ wT cs (fun i => g (45 + i)) R))) (va_Qi (fun r (u : (Nat → Int32) × Tw) => r = res.1 ∧ u = res.2) (fun u t => va_P (dC, dI) vwCl ((fun u : (Nat → Int32) × Tw => (wB g u.1 ++ wT cs (fun i => g (1 + i)) N ++ wF (g 44) (g 45) ++ wT cs (fun i => g (45 + i)) u.2)) u) t.heap ∧ va_D (va_A (wB g B ++ wT cs (fun i => g (1 + i)) N ++ wF (g 44) (g 45) ++ wT cs (fun i => g (45 + i)) R) sz) ((fun u : (Nat → Int32) × Tw => (wB g u.1 ++ wT cs (fun i => g (1 + i)) N ++ wF (g 44) (g 45) ++ wT cs (fun i => g (45 + i)) u.2)) u)) (va_A (wB g B ++ wT cs (fun i => g (1 + i)) N ++ wF (g 44) (g 45) ++ wT cs (fun i => g (45 + i)) R) sz)) 0 0 (va_A (wB g B ++ wT cs (fun i => g (1 + i)) N ++ wF (g 44) (g 45) ++ wT cs (fun i => g (45 + i)) R) sz) := by
  refine Met.ofW (cc := cX7_holds) (maxL := 2) (ret := (some .int)) (by decide) rfl ?_
  intro p e s m args below meth c s₁ Bd hml hv
  obtain ⟨rfl, hsz, hP, G, hD0⟩ := hv
  have hts := atoms_spec (ws := wsX7_holds) Bd.pre
  have hown : s.vm.findClass RX7 = some m.cls := findClass_of_methodNamed Bd.named
  have hlocks := Bd.notSynchronized
  have hx := Bd.exec
  have hb := Bd.bytes
  have hr := Bd.returns
  have C : CallFix p m c cX7_holds 2 s _ wsX7_holds RX7 := ⟨hx, hb, hml, hown, hts⟩
  obtain ⟨hK, hN⟩ := id G
  subst hsz
  have hD := hD0.self (sz := s.heap.size)
  generalize hAe : va_A (wB g B ++ wT cs (fun i => g (1 + i)) N ++ wF (g 44) (g 45) ++ wT cs (fun i => g (45 + i)) R) s.heap.size = A at hD ⊢
  have hA : ∀ q : Nat, s.heap.size ≤ q → A q := fun q h => by rw [← hAe]; exact Or.inr h
  have hS : va_S A s.heap s.heap [] := va_S.rf
  have hR : RTi p l e ({ frames := 6, cells := 0, slots := 0, locals := 138 }) s m ([.ref (g 0), .int (x1)] : List Value).toArray below meth c cX7_holds (MQ below (va_Qi (fun r (u : (Nat → Int32) × Tw) => r = res.1 ∧ u = res.2) (fun u t => va_P (dC, dI) vwCl ((fun u : (Nat → Int32) × Tw => (wB g u.1 ++ wT cs (fun i => g (1 + i)) N ++ wF (g 44) (g 45) ++ wT cs (fun i => g (45 + i)) u.2)) u) t.heap ∧ va_D A ((fun u : (Nat → Int32) × Tw => (wB g u.1 ++ wT cs (fun i => g (1 + i)) N ++ wF (g 44) (g 45) ++ wT cs (fun i => g (45 + i)) u.2)) u)) A) ([.ref (g 0), .int (x1)] : List Value).toArray s 0 0 A) (dC, dI) A (fun u : (Nat → Int32) × Tw => (wB g u.1 ++ wT cs (fun i => g (1 + i)) N ++ wF (g 44) (g 45) ++ wT cs (fun i => g (45 + i)) u.2)) res := fun H locs pc ls r u dd h hP hD hS => W.iret hx hb hr (fun t ht hW => ⟨⟨r, u, rfl, by cases h; exact ⟨rfl, rfl⟩, by rw [ht]; exact hP, hD⟩, hS.F ht⟩) hS.2.2 dd
  have hl := lv_entry ([.ref (g 0), .int (x1)]) (n := 2) (Nat.le_of_ble_eq_true rfl)
  rw [lg_entry_eq]
  generalize (lg_sl ([.ref (g 0), .int (x1)]) ++ List.replicate (2 - (lg_sl ([.ref (g 0), .int (x1)])).length) Slot.unset).toArray = ls at hl ⊢
  have hl : lv_has ls 2 [(0, .ref (g 0)), (1, .int (x1))] := hl
  unfold f_X7_holds at hf
  refine lv_iload_n hx hb dX7_holds_0 rfl (lv_at hl 1 rfl) ?_
  refine lv_iconst (v := 0) hx hb dX7_holds_1 (by decide) ?_
  refine lv_bipush (v := 60) hx hb dX7_holds_2 (by decide) ?_
  obtain ⟨r4, hr4, hf⟩ := bn_e hf
  have hPc := hP.sub (ws' := ([] : va_W)) [] rfl
  refine vp_callSi (W.runS (As := [.int (x1), .int ((0 : Int32)), .int ((60 : Int32))]) (rest := []) C (c_X7_within l dC dI cs x1 (0 : Int32) (60 : Int32) r4 hr4) (va_cwS 3 hts gX7_holds_X7_within rfl rfl rfl (by decide +kernel) ⟨Nat.le_of_ble_eq_true rfl, Nat.le_of_ble_eq_true rfl⟩) ⟨(fun a U g mk q => ⟨q.1, q.2.1, GE.calling q.2.2⟩), (fun U hU hW => ⟨rfl, by rw [hU]; exact hPc, GE.warm hW G⟩)⟩ rfl rfl hl.1 rfl (lv_room (Nat.le_of_ble_eq_true rfl)) dX7_holds_4 ⟨Nat.le_of_ble_eq_true rfl, Nat.le_of_ble_eq_true rfl⟩) (fun qr4 hqr4 => ?_)
  obtain ⟨hqr4, hnr4⟩ := hqr4
  obtain rfl := hqr4.symm
  refine lv_if_ne (tgt := 15) hx hb dX7_holds_7 (by decide) (fun c1 => ?_) (fun c1 => ?_)
  · replace hf := it_f c1 hf
    refine lv_aload_n hx hb dX7_holds_15 rfl (lv_at hl 0 rfl) ?_
    refine va_get (D := (dC, dI)) (ci := 7) (v := .ref (g 44)) (C := RX7) (T := TX7) (N := 11) hx hb hts in_X7_holds_X7 hown hK hP 0 rfl rfl 5 (by decide) (hts (.fieldLink RX7 43 "BackLoans" "foresight" "LBackLoans$Foresight;") (by decide +kernel)) (fun _ h9 => h9) rfl dX7_holds_16 ?_
    refine lv_aload_n hx hb dX7_holds_19 rfl (lv_at hl 0 rfl) ?_
    refine va_get (D := (dC, dI)) (ci := 7) (v := .ref (g 1)) (C := RX7) (T := TX7) (N := 11) hx hb hts in_X7_holds_X7 hown hK hP 0 rfl rfl 0 (by decide) (hts (.fieldLink RX7 10 "BackLoans" "now" "LBackLoans$Town;") (by decide +kernel)) (fun _ h9 => h9) rfl dX7_holds_20 ?_
    refine lv_iload_n hx hb dX7_holds_23 rfl (lv_at hl 1 rfl) ?_
    obtain ⟨r24, hr24, hf⟩ := bn_e hf
    have hPc := hP.sub (ws' := (wF (g 44) (g 45) ++ wT cs (fun i => g (45 + i)) R ++ wT cs (fun i => g (1 + i)) N)) [12, 13, 14, 15, 16, 17, 18, 19, 20, 21, 22, 23, 1, 2, 3, 4, 5, 6, 7, 8, 9, 10, 11] rfl
    have hDc := hD.sub (ws' := (wF (g 44) (g 45) ++ wT cs (fun i => g (45 + i)) R ++ wT cs (fun i => g (1 + i)) N)) [12, 13, 14, 15, 16, 17, 18, 19, 20, 21, 22, 23, 1, 2, 3, 4, 5, 6, 7, 8, 9, 10, 11] (by decide) rfl
    have hFc := va_free (wc := (wF (g 44) (g 45) ++ wT cs (fun i => g (45 + i)) R ++ wT cs (fun i => g (1 + i)) N)) hD hS hA [12, 13, 14, 15, 16, 17, 18, 19, 20, 21, 22, 23, 1, 2, 3, 4, 5, 6, 7, 8, 9, 10, 11] rfl
    refine va_calli (va_runV (As := [.ref (g 1), .int (x1)]) (rest := []) C (c_X1_leastChest l dC dI cs (fun i => g (44 + i)) (fun i => g (45 + i)) (fun i => g (1 + i)) s.heap.size R N x1 r24 hr24) (cwV 2 hts gX7_holds_X1_leastChest rfl rfl rfl (by decide +kernel) ⟨Nat.le_of_ble_eq_true rfl, Nat.le_of_ble_eq_true rfl⟩) ⟨(fun a U g mk q => ⟨q.1, q.2.1, q.2.2.1, GE.calling q.2.2.2.1, q.2.2.2.2⟩), va_recv hK hPc (ci := 1) (q0 := 0) rfl rfl, (fun U hU hW => ⟨rfl, by rw [hU], by rw [hU]; exact hPc, GE.warm hW G, hDc.weaken (fun _ _ _ _ => trivial)⟩)⟩ rfl rfl hl.1 rfl (lv_room (Nat.le_of_ble_eq_true rfl)) dX7_holds_24 ⟨Nat.le_of_ble_eq_true rfl, Nat.le_of_ble_eq_true rfl⟩) hS (fun q _ h => hFc q h) hFc (fun q u t H1 locs ht hvm hw hB hz1 hk1 hS => ?_)
    obtain ⟨rfl, rfl⟩ := hw
    obtain ⟨hP1, hD1⟩ := hB
    rw [ht] at hP1
    obtain ⟨hP, hD⟩ := va_join (wr := [0].filterMap (fun i => ((wB g B ++ wT cs (fun i => g (1 + i)) N ++ wF (g 44) (g 45) ++ wT cs (fun i => g (45 + i)) R))[i]?)) (w1 := (wF (g 44) (g 45) ++ wT cs (fun i => g (45 + i)) r24.2 ++ wT cs (fun i => g (1 + i)) N)) hP hD [12, 13, 14, 15, 16, 17, 18, 19, 20, 21, 22, 23, 1, 2, 3, 4, 5, 6, 7, 8, 9, 10, 11] [0] rfl rfl (by decide) (by decide) hk1 hFc hP1 hD1
    generalize H1 = H at hP hS ⊢
    have hP := hP.sub (ws' := (wB g B ++ wT cs (fun i => g (1 + i)) N ++ wF (g 44) (g 45) ++ wT cs (fun i => g (45 + i)) r24.2)) [0, 13, 14, 15, 16, 17, 18, 19, 20, 21, 22, 23, 1, 2, 3, 4, 5, 6, 7, 8, 9, 10, 11, 12] rfl
    have hD := hD.sub (ws' := (wB g B ++ wT cs (fun i => g (1 + i)) N ++ wF (g 44) (g 45) ++ wT cs (fun i => g (45 + i)) r24.2)) [0, 13, 14, 15, 16, 17, 18, 19, 20, 21, 22, 23, 1, 2, 3, 4, 5, 6, 7, 8, 9, 10, 11, 12] (by decide) rfl
    exact hR _ _ _ _ _ _ dX7_holds_27 hf hP hD hS
  · replace hf := it_t c1 hf
    refine lv_aload_n hx hb dX7_holds_10 rfl (lv_at hl 0 rfl) ?_
    obtain ⟨r11, hr11, hf⟩ := bn_e hf
    have hPc := hP.sub (ws' := (wB g B)) [0] rfl
    have hDc := hD.sub (ws' := (wB g B)) [0] (by decide) rfl
    have hFc := va_free (wc := (wB g B)) hD hS hA [0] rfl
    refine va_calli (va_runV (As := []) (rest := []) C (c_X7_bad l dC dI cs g s.heap.size B r11 hr11) (cwV 0 hts gX7_holds_X7_bad rfl rfl rfl (by decide +kernel) ⟨Nat.le_of_ble_eq_true rfl, Nat.le_of_ble_eq_true rfl⟩) ⟨(fun a U g mk q => ⟨q.1, q.2.1, q.2.2.1, GE.calling q.2.2.2.1, q.2.2.2.2⟩), va_recv hK hPc (ci := 7) (q0 := 0) rfl rfl, (fun U hU hW => ⟨rfl, by rw [hU], by rw [hU]; exact hPc, GE.warm hW G, hDc.weaken (fun _ _ _ _ => trivial)⟩)⟩ rfl rfl hl.1 rfl (lv_room (Nat.le_of_ble_eq_true rfl)) dX7_holds_11 ⟨Nat.le_of_ble_eq_true rfl, Nat.le_of_ble_eq_true rfl⟩) hS (fun q _ h => hFc q h) hFc (fun q u t H1 locs ht hvm hw hB hz1 hk1 hS => ?_)
    obtain ⟨rfl, rfl⟩ := hw
    obtain ⟨hP1, hD1⟩ := hB
    rw [ht] at hP1
    obtain ⟨hP, hD⟩ := va_join (wr := [1, 2, 3, 4, 5, 6, 7, 8, 9, 10, 11, 12, 13, 14, 15, 16, 17, 18, 19, 20, 21, 22, 23].filterMap (fun i => ((wB g B ++ wT cs (fun i => g (1 + i)) N ++ wF (g 44) (g 45) ++ wT cs (fun i => g (45 + i)) R))[i]?)) (w1 := (wB g r11.2)) hP hD [0] [1, 2, 3, 4, 5, 6, 7, 8, 9, 10, 11, 12, 13, 14, 15, 16, 17, 18, 19, 20, 21, 22, 23] rfl rfl (by decide) (by decide) hk1 hFc hP1 hD1
    generalize H1 = H at hP hS ⊢
    have hP := hP.sub (ws' := (wB g r11.2 ++ wT cs (fun i => g (1 + i)) N ++ wF (g 44) (g 45) ++ wT cs (fun i => g (45 + i)) R)) [23, 0, 1, 2, 3, 4, 5, 6, 7, 8, 9, 10, 11, 12, 13, 14, 15, 16, 17, 18, 19, 20, 21, 22] rfl
    have hD := hD.sub (ws' := (wB g r11.2 ++ wT cs (fun i => g (1 + i)) N ++ wF (g 44) (g 45) ++ wT cs (fun i => g (45 + i)) R)) [23, 0, 1, 2, 3, 4, 5, 6, 7, 8, 9, 10, 11, 12, 13, 14, 15, 16, 17, 18, 19, 20, 21, 22] (by decide) rfl
    exact hR _ _ _ _ _ _ dX7_holds_14 hf hP hD hS

