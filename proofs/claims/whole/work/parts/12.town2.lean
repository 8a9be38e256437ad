theorem in_X5_copyFrom_X5 : ∀ w ∈ wsX50, w ∈ wsX5_copyFrom := by decide +kernel
def f_X5_copyFrom  (T : Tw) (O : Tw) : Option Tw :=
  lett ((upd T.1 0 ((O.1 0)), T.2)) fun T_5 =>
  lett ((upd T_5.1 1 ((O.1 1)), T_5.2)) fun T_13 =>
  lett ((upd T_13.1 2 ((O.1 2)), T_13.2)) fun T_21 =>
  lett ((upd T_21.1 3 ((O.1 3)), T_21.2)) fun T_29 =>
  lett ((upd T_29.1 4 ((O.1 4)), T_29.2)) fun T_37 =>
  lett ((upd T_37.1 5 ((O.1 5)), T_37.2)) fun T_45 =>
  lett ((upd T_45.1 6 ((O.1 6)), T_45.2)) fun T_53 =>
  gc ((0 : Int32)) ((0 : Int32)) ((6 : Int32)) 6 6 <|
  lett ((T_53.1, va_up T_53.2 0 (va_cpy (O.2 0) (T_53.2 0) ((0 : Int32)).toNatClampNeg ((0 : Int32)).toNatClampNeg ((6 : Int32)).toNatClampNeg))) fun T_68 =>
  gc ((0 : Int32)) ((0 : Int32)) ((6 : Int32)) 6 6 <|
  lett ((T_68.1, va_up T_68.2 1 (va_cpy (O.2 1) (T_68.2 1) ((0 : Int32)).toNatClampNeg ((0 : Int32)).toNatClampNeg ((6 : Int32)).toNatClampNeg))) fun T_83 =>
  gc ((0 : Int32)) ((0 : Int32)) ((6 : Int32)) 6 6 <|
  lett ((T_83.1, va_up T_83.2 2 (va_cpy (O.2 2) (T_83.2 2) ((0 : Int32)).toNatClampNeg ((0 : Int32)).toNatClampNeg ((6 : Int32)).toNatClampNeg))) fun T_98 =>
  gc ((0 : Int32)) ((0 : Int32)) ((8 : Int32)) 8 8 <|
  lett ((T_98.1, va_up T_98.2 3 (va_cpy (O.2 3) (T_98.2 3) ((0 : Int32)).toNatClampNeg ((0 : Int32)).toNatClampNeg ((8 : Int32)).toNatClampNeg))) fun T_113 =>
  gc ((0 : Int32)) ((0 : Int32)) ((8 : Int32)) 8 8 <|
  lett ((T_113.1, va_up T_113.2 4 (va_cpy (O.2 4) (T_113.2 4) ((0 : Int32)).toNatClampNeg ((0 : Int32)).toNatClampNeg ((8 : Int32)).toNatClampNeg))) fun T_128 =>
  gc ((0 : Int32)) ((0 : Int32)) ((8 : Int32)) 8 8 <|
  lett ((T_128.1, va_up T_128.2 5 (va_cpy (O.2 5) (T_128.2 5) ((0 : Int32)).toNatClampNeg ((0 : Int32)).toNatClampNeg ((8 : Int32)).toNatClampNeg))) fun T_143 =>
  gc ((0 : Int32)) ((0 : Int32)) ((8 : Int32)) 8 8 <|
  lett ((T_143.1, va_up T_143.2 6 (va_cpy (O.2 6) (T_143.2 6) ((0 : Int32)).toNatClampNeg ((0 : Int32)).toNatClampNeg ((8 : Int32)).toNatClampNeg))) fun T_158 =>
  gc ((0 : Int32)) ((0 : Int32)) ((8 : Int32)) 8 8 <|
  lett ((T_158.1, va_up T_158.2 7 (va_cpy (O.2 7) (T_158.2 7) ((0 : Int32)).toNatClampNeg ((0 : Int32)).toNatClampNeg ((8 : Int32)).toNatClampNeg))) fun T_173 =>
  gc ((0 : Int32)) ((0 : Int32)) ((8 : Int32)) 8 8 <|
  lett ((T_173.1, va_up T_173.2 8 (va_cpy (O.2 8) (T_173.2 8) ((0 : Int32)).toNatClampNeg ((0 : Int32)).toNatClampNeg ((8 : Int32)).toNatClampNeg))) fun T_188 =>
  gc ((0 : Int32)) ((0 : Int32)) ((8 : Int32)) 8 8 <|
  lett ((T_188.1, va_up T_188.2 9 (va_cpy (O.2 9) (T_188.2 9) ((0 : Int32)).toNatClampNeg ((0 : Int32)).toNatClampNeg ((8 : Int32)).toNatClampNeg))) fun T_203 =>
  some T_203
set_option maxHeartbeats 4000000 in
set_option maxRecDepth 100000 in
theorem c_X5_copyFrom (l : Launch) (dC : Nat → ClassId) (dI : Nat → Nat → Nat) (cs : Nat → ClassId) (a : Nat → Nat) (b : Nat → Nat) (sz : Nat) (T : Tw) (O : Tw)  (res : Tw) (hf : f_X5_copyFrom T O = some res) : Met l yX5_copyFrom wsX5_copyFrom ({ frames := 1, cells := 0, slots := 0, locals := 26 }) (va_Pc [.ref (a 0), .ref (b 0)] (fun U => U.heap.size = sz ∧ va_P (dC, dI) vwCl (wT cs a T ++ wT cs b O) U.heap ∧ GE dC dI cs U ∧ va_D (fun _ => True) (wT cs a T ++ wT cs b O))) (va_Qv (fun u : Tw => u = res) (fun u t => va_P (dC, dI) vwCl ((fun u : Tw => (wT cs a u ++ wT cs b O)) u) t.heap ∧ va_D (va_A (wT cs a T ++ wT cs b O) sz) ((fun u : Tw => (wT cs a u ++ wT cs b O)) u)) (va_A (wT cs a T ++ wT cs b O) sz)) 0 0 (va_A (wT cs a T ++ wT cs b O) sz) := by
  refine Met.ofW (cc := cX5_copyFrom) (maxL := 2) (ret := none) (by decide) rfl ?_
  intro p e s m args below meth c s₁ B hml hv
  obtain ⟨rfl, hsz, hP, G, hD0⟩ := hv
  have hts := atoms_spec (ws := wsX5_copyFrom) B.pre
  have hown : s.vm.findClass RX5 = some m.cls := findClass_of_methodNamed B.named
  have hlocks := B.notSynchronized
  have hx := B.exec
  have hb := B.bytes
  have hr := B.returns
  have C : CallFix p m c cX5_copyFrom 2 s _ wsX5_copyFrom RX5 := ⟨hx, hb, hml, hown, hts⟩
  obtain ⟨hK, hN⟩ := id G
  subst hsz
  have hD := hD0.self (sz := s.heap.size)
  generalize hAe : va_A (wT cs a T ++ wT cs b O) s.heap.size = A at hD ⊢
  have hA : ∀ q : Nat, s.heap.size ≤ q → A q := fun q h => by rw [← hAe]; exact Or.inr h
  have hS : va_S A s.heap s.heap [] := va_S.rf
  have hR : RTv p l e ({ frames := 1, cells := 0, slots := 0, locals := 26 }) s m ([.ref (a 0), .ref (b 0)] : List Value).toArray below meth c cX5_copyFrom (MQ below (va_Qv (fun u : Tw => u = res) (fun u t => va_P (dC, dI) vwCl ((fun u : Tw => (wT cs a u ++ wT cs b O)) u) t.heap ∧ va_D A ((fun u : Tw => (wT cs a u ++ wT cs b O)) u)) A) ([.ref (a 0), .ref (b 0)] : List Value).toArray s 0 0 A) (dC, dI) A (fun u : Tw => (wT cs a u ++ wT cs b O)) res := fun H locs pc ls u dd h hP hD hS => W.vret hx hb hr (fun t ht hW => ⟨⟨u, rfl, by cases h; rfl, by rw [ht]; exact hP, hD⟩, hS.F ht⟩) hS.2.2 dd
  have hl := lv_entry ([.ref (a 0), .ref (b 0)]) (n := 2) (Nat.le_of_ble_eq_true rfl)
  rw [lg_entry_eq]
  generalize (lg_sl ([.ref (a 0), .ref (b 0)]) ++ List.replicate (2 - (lg_sl ([.ref (a 0), .ref (b 0)])).length) Slot.unset).toArray = ls at hl ⊢
  have hl : lv_has ls 2 [(0, .ref (a 0)), (1, .ref (b 0))] := hl
  unfold f_X5_copyFrom at hf
  refine lv_aload_n hx hb dX5_copyFrom_0 rfl (lv_at hl 0 rfl) ?_
  refine lv_aload_n hx hb dX5_copyFrom_1 rfl (lv_at hl 1 rfl) ?_
  refine va_get (D := (dC, dI)) (ci := 5) (v := .int ((O.1 0))) (C := RX5) (T := TX5) (N := 17) hx hb hts in_X5_copyFrom_X5 hown hK hP 11 rfl rfl 0 (by decide) (hts (.fieldLink RX5 42 "BackLoans$Town" "chest" "I") (by decide +kernel)) (fun _ h9 => h9) rfl dX5_copyFrom_2 ?_
  refine va_put (D := (dC, dI)) (ci := 5) (v := .int ((O.1 0))) (ty := .int) (C := RX5) (T := TX5) (N := 17) hx hb hts in_X5_copyFrom_X5 tyX5 tyX5_ok nmX5 hown hK hP hD hS 0 rfl rfl 0 (by decide) (hts (.fieldLink RX5 42 "BackLoans$Town" "chest" "I") (by decide +kernel)) (fun _ h9 => h9) rfl (by decide +kernel) rfl rfl (Nat.le_of_ble_eq_true rfl) dX5_copyFrom_5 (fun H locs hP hD hS => ?_)
  obtain ⟨T_5, hP, hD, hf⟩ := st_nm (ws := fun T_5 : Tw => (wT cs a T_5 ++ wT cs b O)) ((upd T.1 0 ((O.1 0)), T.2)) hP hD hf
  refine lv_aload_n hx hb dX5_copyFrom_8 rfl (lv_at hl 0 rfl) ?_
  refine lv_aload_n hx hb dX5_copyFrom_9 rfl (lv_at hl 1 rfl) ?_
  refine va_get (D := (dC, dI)) (ci := 5) (v := .int ((O.1 1))) (C := RX5) (T := TX5) (N := 17) hx hb hts in_X5_copyFrom_X5 hown hK hP 11 rfl rfl 1 (by decide) (hts (.fieldLink RX5 46 "BackLoans$Town" "rate" "I") (by decide +kernel)) (fun _ h9 => h9) rfl dX5_copyFrom_10 ?_
  refine va_put (D := (dC, dI)) (ci := 5) (v := .int ((O.1 1))) (ty := .int) (C := RX5) (T := TX5) (N := 17) hx hb hts in_X5_copyFrom_X5 tyX5 tyX5_ok nmX5 hown hK hP hD hS 0 rfl rfl 1 (by decide) (hts (.fieldLink RX5 46 "BackLoans$Town" "rate" "I") (by decide +kernel)) (fun _ h9 => h9) rfl (by decide +kernel) rfl rfl (Nat.le_of_ble_eq_true rfl) dX5_copyFrom_13 (fun H locs hP hD hS => ?_)
  obtain ⟨T_13, hP, hD, hf⟩ := st_nm (ws := fun T_13 : Tw => (wT cs a T_13 ++ wT cs b O)) ((upd T_5.1 1 ((O.1 1)), T_5.2)) hP hD hf
  refine lv_aload_n hx hb dX5_copyFrom_16 rfl (lv_at hl 0 rfl) ?_
  refine lv_aload_n hx hb dX5_copyFrom_17 rfl (lv_at hl 1 rfl) ?_
  refine va_get (D := (dC, dI)) (ci := 5) (v := .int ((O.1 2))) (C := RX5) (T := TX5) (N := 17) hx hb hts in_X5_copyFrom_X5 hown hK hP 11 rfl rfl 2 (by decide) (hts (.fieldLink RX5 49 "BackLoans$Town" "month" "I") (by decide +kernel)) (fun _ h9 => h9) rfl dX5_copyFrom_18 ?_
  refine va_put (D := (dC, dI)) (ci := 5) (v := .int ((O.1 2))) (ty := .int) (C := RX5) (T := TX5) (N := 17) hx hb hts in_X5_copyFrom_X5 tyX5 tyX5_ok nmX5 hown hK hP hD hS 0 rfl rfl 2 (by decide) (hts (.fieldLink RX5 49 "BackLoans$Town" "month" "I") (by decide +kernel)) (fun _ h9 => h9) rfl (by decide +kernel) rfl rfl (Nat.le_of_ble_eq_true rfl) dX5_copyFrom_21 (fun H locs hP hD hS => ?_)
  obtain ⟨T_21, hP, hD, hf⟩ := st_nm (ws := fun T_21 : Tw => (wT cs a T_21 ++ wT cs b O)) ((upd T_13.1 2 ((O.1 2)), T_13.2)) hP hD hf
  refine lv_aload_n hx hb dX5_copyFrom_24 rfl (lv_at hl 0 rfl) ?_
  refine lv_aload_n hx hb dX5_copyFrom_25 rfl (lv_at hl 1 rfl) ?_
  refine va_get (D := (dC, dI)) (ci := 5) (v := .int ((O.1 3))) (C := RX5) (T := TX5) (N := 17) hx hb hts in_X5_copyFrom_X5 hown hK hP 11 rfl rfl 3 (by decide) (hts (.fieldLink RX5 52 "BackLoans$Town" "lacks" "I") (by decide +kernel)) (fun _ h9 => h9) rfl dX5_copyFrom_26 ?_
  refine va_put (D := (dC, dI)) (ci := 5) (v := .int ((O.1 3))) (ty := .int) (C := RX5) (T := TX5) (N := 17) hx hb hts in_X5_copyFrom_X5 tyX5 tyX5_ok nmX5 hown hK hP hD hS 0 rfl rfl 3 (by decide) (hts (.fieldLink RX5 52 "BackLoans$Town" "lacks" "I") (by decide +kernel)) (fun _ h9 => h9) rfl (by decide +kernel) rfl rfl (Nat.le_of_ble_eq_true rfl) dX5_copyFrom_29 (fun H locs hP hD hS => ?_)
  obtain ⟨T_29, hP, hD, hf⟩ := st_nm (ws := fun T_29 : Tw => (wT cs a T_29 ++ wT cs b O)) ((upd T_21.1 3 ((O.1 3)), T_21.2)) hP hD hf
  refine lv_aload_n hx hb dX5_copyFrom_32 rfl (lv_at hl 0 rfl) ?_
  refine lv_aload_n hx hb dX5_copyFrom_33 rfl (lv_at hl 1 rfl) ?_
  refine va_get (D := (dC, dI)) (ci := 5) (v := .int ((O.1 4))) (C := RX5) (T := TX5) (N := 17) hx hb hts in_X5_copyFrom_X5 hown hK hP 11 rfl rfl 4 (by decide) (hts (.fieldLink RX5 55 "BackLoans$Town" "people" "I") (by decide +kernel)) (fun _ h9 => h9) rfl dX5_copyFrom_34 ?_
  refine va_put (D := (dC, dI)) (ci := 5) (v := .int ((O.1 4))) (ty := .int) (C := RX5) (T := TX5) (N := 17) hx hb hts in_X5_copyFrom_X5 tyX5 tyX5_ok nmX5 hown hK hP hD hS 0 rfl rfl 4 (by decide) (hts (.fieldLink RX5 55 "BackLoans$Town" "people" "I") (by decide +kernel)) (fun _ h9 => h9) rfl (by decide +kernel) rfl rfl (Nat.le_of_ble_eq_true rfl) dX5_copyFrom_37 (fun H locs hP hD hS => ?_)
  obtain ⟨T_37, hP, hD, hf⟩ := st_nm (ws := fun T_37 : Tw => (wT cs a T_37 ++ wT cs b O)) ((upd T_29.1 4 ((O.1 4)), T_29.2)) hP hD hf
  refine lv_aload_n hx hb dX5_copyFrom_40 rfl (lv_at hl 0 rfl) ?_
  refine lv_aload_n hx hb dX5_copyFrom_41 rfl (lv_at hl 1 rfl) ?_
  refine va_get (D := (dC, dI)) (ci := 5) (v := .int ((O.1 5))) (C := RX5) (T := TX5) (N := 17) hx hb hts in_X5_copyFrom_X5 hown hK hP 11 rfl rfl 5 (by decide) (hts (.fieldLink RX5 58 "BackLoans$Town" "loans" "I") (by decide +kernel)) (fun _ h9 => h9) rfl dX5_copyFrom_42 ?_
  refine va_put (D := (dC, dI)) (ci := 5) (v := .int ((O.1 5))) (ty := .int) (C := RX5) (T := TX5) (N := 17) hx hb hts in_X5_copyFrom_X5 tyX5 tyX5_ok nmX5 hown hK hP hD hS 0 rfl rfl 5 (by decide) (hts (.fieldLink RX5 58 "BackLoans$Town" "loans" "I") (by decide +kernel)) (fun _ h9 => h9) rfl (by decide +kernel) rfl rfl (Nat.le_of_ble_eq_true rfl) dX5_copyFrom_45 (fun H locs hP hD hS => ?_)
  obtain ⟨T_45, hP, hD, hf⟩ := st_nm (ws := fun T_45 : Tw => (wT cs a T_45 ++ wT cs b O)) ((upd T_37.1 5 ((O.1 5)), T_37.2)) hP hD hf
  refine lv_aload_n hx hb dX5_copyFrom_48 rfl (lv_at hl 0 rfl) ?_
  refine lv_aload_n hx hb dX5_copyFrom_49 rfl (lv_at hl 1 rfl) ?_
  refine va_get (D := (dC, dI)) (ci := 5) (v := .int ((O.1 6))) (C := RX5) (T := TX5) (N := 17) hx hb hts in_X5_copyFrom_X5 hown hK hP 11 rfl rfl 6 (by decide) (hts (.fieldLink RX5 61 "BackLoans$Town" "offers" "I") (by decide +kernel)) (fun _ h9 => h9) rfl dX5_copyFrom_50 ?_
  refine va_put (D := (dC, dI)) (ci := 5) (v := .int ((O.1 6))) (ty := .int) (C := RX5) (T := TX5) (N := 17) hx hb hts in_X5_copyFrom_X5 tyX5 tyX5_ok nmX5 hown hK hP hD hS 0 rfl rfl 6 (by decide) (hts (.fieldLink RX5 61 "BackLoans$Town" "offers" "I") (by decide +kernel)) (fun _ h9 => h9) rfl (by decide +kernel) rfl rfl (Nat.le_of_ble_eq_true rfl) dX5_copyFrom_53 (fun H locs hP hD hS => ?_)
  obtain ⟨T_53, hP, hD, hf⟩ := st_nm (ws := fun T_53 : Tw => (wT cs a T_53 ++ wT cs b O)) ((upd T_45.1 6 ((O.1 6)), T_45.2)) hP hD hf
  refine lv_aload_n hx hb dX5_copyFrom_56 rfl (lv_at hl 1 rfl) ?_
  refine va_get (D := (dC, dI)) (ci := 5) (v := .ref (b 1)) (C := RX5) (T := TX5) (N := 17) hx hb hts in_X5_copyFrom_X5 hown hK hP 11 rfl rfl 7 (by decide) (hts (.fieldLink RX5 9 "BackLoans$Town" "kind" "[I") (by decide +kernel)) (fun _ h9 => h9) rfl dX5_copyFrom_57 ?_
  refine lv_iconst (v := 0) hx hb dX5_copyFrom_60 (by decide) ?_
  refine lv_aload_n hx hb dX5_copyFrom_61 rfl (lv_at hl 0 rfl) ?_
  refine va_get (D := (dC, dI)) (ci := 5) (v := .ref (a 1)) (C := RX5) (T := TX5) (N := 17) hx hb hts in_X5_copyFrom_X5 hown hK hP 0 rfl rfl 7 (by decide) (hts (.fieldLink RX5 9 "BackLoans$Town" "kind" "[I") (by decide +kernel)) (fun _ h9 => h9) rfl dX5_copyFrom_62 ?_
  refine lv_iconst (v := 0) hx hb dX5_copyFrom_65 (by decide) ?_
  refine lv_bipush (v := 6) hx hb dX5_copyFrom_66 (by decide) ?_
  obtain ⟨⟨h1_1, h2_1, h3_1, h4_1, h5_1⟩, hf⟩ := gc_e hf
  refine va_copyi hx hb (hml.trans hl.1.symm) hown (hts (.methodLink RX5 64 arraycopyName) (by decide +kernel)) (hts (.native arraycopyName) (by decide +kernel)) (hts (.static arraycopyName) (by decide +kernel)) (hts (.initialized "java/lang/System") (by decide +kernel)) hK hP hD hS 12 1 0 0 rfl rfl rfl rfl rfl h1_1 h2_1 h3_1 h4_1 h5_1 (fun _ _ => rfl) (Nat.le_of_ble_eq_true rfl) (by decide) dX5_copyFrom_68 (fun H locs hP hD hS => ?_)
  obtain ⟨T_68, hP, hD, hf⟩ := st_nm (ws := fun T_68 : Tw => (wT cs a T_68 ++ wT cs b O)) ((T_53.1, va_up T_53.2 0 (va_cpy (O.2 0) (T_53.2 0) ((0 : Int32)).toNatClampNeg ((0 : Int32)).toNatClampNeg ((6 : Int32)).toNatClampNeg))) hP hD hf
  refine lv_aload_n hx hb dX5_copyFrom_71 rfl (lv_at hl 1 rfl) ?_
  refine va_get (D := (dC, dI)) (ci := 5) (v := .ref (b 2)) (C := RX5) (T := TX5) (N := 17) hx hb hts in_X5_copyFrom_X5 hown hK hP 11 rfl rfl 8 (by decide) (hts (.fieldLink RX5 15 "BackLoans$Town" "means" "[I") (by decide +kernel)) (fun _ h9 => h9) rfl dX5_copyFrom_72 ?_
  refine lv_iconst (v := 0) hx hb dX5_copyFrom_75 (by decide) ?_
  refine lv_aload_n hx hb dX5_copyFrom_76 rfl (lv_at hl 0 rfl) ?_
  refine va_get (D := (dC, dI)) (ci := 5) (v := .ref (a 2)) (C := RX5) (T := TX5) (N := 17) hx hb hts in_X5_copyFrom_X5 hown hK hP 0 rfl rfl 8 (by decide) (hts (.fieldLink RX5 15 "BackLoans$Town" "means" "[I") (by decide +kernel)) (fun _ h9 => h9) rfl dX5_copyFrom_77 ?_
  refine lv_iconst (v := 0) hx hb dX5_copyFrom_80 (by decide) ?_
  refine lv_bipush (v := 6) hx hb dX5_copyFrom_81 (by decide) ?_
  obtain ⟨⟨h1_2, h2_2, h3_2, h4_2, h5_2⟩, hf⟩ := gc_e hf
  refine va_copyi hx hb (hml.trans hl.1.symm) hown (hts (.methodLink RX5 64 arraycopyName) (by decide +kernel)) (hts (.native arraycopyName) (by decide +kernel)) (hts (.static arraycopyName) (by decide +kernel)) (hts (.initialized "java/lang/System") (by decide +kernel)) hK hP hD hS 13 2 0 0 rfl rfl rfl rfl rfl h1_2 h2_2 h3_2 h4_2 h5_2 (fun _ _ => rfl) (Nat.le_of_ble_eq_true rfl) (by decide) dX5_copyFrom_83 (fun H locs hP hD hS => ?_)
  obtain ⟨T_83, hP, hD, hf⟩ := st_nm (ws := fun T_83 : Tw => (wT cs a T_83 ++ wT cs b O)) ((T_68.1, va_up T_68.2 1 (va_cpy (O.2 1) (T_68.2 1) ((0 : Int32)).toNatClampNeg ((0 : Int32)).toNatClampNeg ((6 : Int32)).toNatClampNeg))) hP hD hf
  refine lv_aload_n hx hb dX5_copyFrom_86 rfl (lv_at hl 1 rfl) ?_
  refine va_get (D := (dC, dI)) (ci := 5) (v := .ref (b 3)) (C := RX5) (T := TX5) (N := 17) hx hb hts in_X5_copyFrom_X5 hown hK hP 11 rfl rfl 9 (by decide) (hts (.fieldLink RX5 18 "BackLoans$Town" "purse" "[I") (by decide +kernel)) (fun _ h9 => h9) rfl dX5_copyFrom_87 ?_
  refine lv_iconst (v := 0) hx hb dX5_copyFrom_90 (by decide) ?_
  refine lv_aload_n hx hb dX5_copyFrom_91 rfl (lv_at hl 0 rfl) ?_
  refine va_get (D := (dC, dI)) (ci := 5) (v := .ref (a 3)) (C := RX5) (T := TX5) (N := 17) hx hb hts in_X5_copyFrom_X5 hown hK hP 0 rfl rfl 9 (by decide) (hts (.fieldLink RX5 18 "BackLoans$Town" "purse" "[I") (by decide +kernel)) (fun _ h9 => h9) rfl dX5_copyFrom_92 ?_
  refine lv_iconst (v := 0) hx hb dX5_copyFrom_95 (by decide) ?_
  refine lv_bipush (v := 6) hx hb dX5_copyFrom_96 (by decide) ?_
  obtain ⟨⟨h1_3, h2_3, h3_3, h4_3, h5_3⟩, hf⟩ := gc_e hf
  refine va_copyi hx hb (hml.trans hl.1.symm) hown (hts (.methodLink RX5 64 arraycopyName) (by decide +kernel)) (hts (.native arraycopyName) (by decide +kernel)) (hts (.static arraycopyName) (by decide +kernel)) (hts (.initialized "java/lang/System") (by decide +kernel)) hK hP hD hS 14 3 0 0 rfl rfl rfl rfl rfl h1_3 h2_3 h3_3 h4_3 h5_3 (fun _ _ => rfl) (Nat.le_of_ble_eq_true rfl) (by decide) dX5_copyFrom_98 (fun H locs hP hD hS => ?_)
  obtain ⟨T_98, hP, hD, hf⟩ := st_nm (ws := fun T_98 : Tw => (wT cs a T_98 ++ wT cs b O)) ((T_83.1, va_up T_83.2 2 (va_cpy (O.2 2) (T_83.2 2) ((0 : Int32)).toNatClampNeg ((0 : Int32)).toNatClampNeg ((6 : Int32)).toNatClampNeg))) hP hD hf
  refine lv_aload_n hx hb dX5_copyFrom_101 rfl (lv_at hl 1 rfl) ?_
  refine va_get (D := (dC, dI)) (ci := 5) (v := .ref (b 4)) (C := RX5) (T := TX5) (N := 17) hx hb hts in_X5_copyFrom_X5 hown hK hP 11 rfl rfl 10 (by decide) (hts (.fieldLink RX5 21 "BackLoans$Town" "owner" "[I") (by decide +kernel)) (fun _ h9 => h9) rfl dX5_copyFrom_102 ?_
  refine lv_iconst (v := 0) hx hb dX5_copyFrom_105 (by decide) ?_
  refine lv_aload_n hx hb dX5_copyFrom_106 rfl (lv_at hl 0 rfl) ?_
  refine va_get (D := (dC, dI)) (ci := 5) (v := .ref (a 4)) (C := RX5) (T := TX5) (N := 17) hx hb hts in_X5_copyFrom_X5 hown hK hP 0 rfl rfl 10 (by decide) (hts (.fieldLink RX5 21 "BackLoans$Town" "owner" "[I") (by decide +kernel)) (fun _ h9 => h9) rfl dX5_copyFrom_107 ?_
  refine lv_iconst (v := 0) hx hb dX5_copyFrom_110 (by decide) ?_
  refine lv_bipush (v := 8) hx hb dX5_copyFrom_111 (by decide) ?_
  obtain ⟨⟨h1_4, h2_4, h3_4, h4_4, h5_4⟩, hf⟩ := gc_e hf
  refine va_copyi hx hb (hml.trans hl.1.symm) hown (hts (.methodLink RX5 64 arraycopyName) (by decide +kernel)) (hts (.native arraycopyName) (by decide +kernel)) (hts (.static arraycopyName) (by decide +kernel)) (hts (.initialized "java/lang/System") (by decide +kernel)) hK hP hD hS 15 4 0 0 rfl rfl rfl rfl rfl h1_4 h2_4 h3_4 h4_4 h5_4 (fun _ _ => rfl) (Nat.le_of_ble_eq_true rfl) (by decide) dX5_copyFrom_113 (fun H locs hP hD hS => ?_)
  obtain ⟨T_113, hP, hD, hf⟩ := st_nm (ws := fun T_113 : Tw => (wT cs a T_113 ++ wT cs b O)) ((T_98.1, va_up T_98.2 3 (va_cpy (O.2 3) (T_98.2 3) ((0 : Int32)).toNatClampNeg ((0 : Int32)).toNatClampNeg ((8 : Int32)).toNatClampNeg))) hP hD hf
  refine lv_aload_n hx hb dX5_copyFrom_116 rfl (lv_at hl 1 rfl) ?_
  refine va_get (D := (dC, dI)) (ci := 5) (v := .ref (b 5)) (C := RX5) (T := TX5) (N := 17) hx hb hts in_X5_copyFrom_X5 hown hK hP 11 rfl rfl 11 (by decide) (hts (.fieldLink RX5 24 "BackLoans$Town" "pence" "[I") (by decide +kernel)) (fun _ h9 => h9) rfl dX5_copyFrom_117 ?_
  refine lv_iconst (v := 0) hx hb dX5_copyFrom_120 (by decide) ?_
  refine lv_aload_n hx hb dX5_copyFrom_121 rfl (lv_at hl 0 rfl) ?_
  refine va_get (D := (dC, dI)) (ci := 5) (v := .ref (a 5)) (C := RX5) (T := TX5) (N := 17) hx hb hts in_X5_copyFrom_X5 hown hK hP 0 rfl rfl 11 (by decide) (hts (.fieldLink RX5 24 "BackLoans$Town" "pence" "[I") (by decide +kernel)) (fun _ h9 => h9) rfl dX5_copyFrom_122 ?_
  refine lv_iconst (v := 0) hx hb dX5_copyFrom_125 (by decide) ?_
  refine lv_bipush (v := 8) hx hb dX5_copyFrom_126 (by decide) ?_
  obtain ⟨⟨h1_5, h2_5, h3_5, h4_5, h5_5⟩, hf⟩ := gc_e hf
  refine va_copyi hx hb (hml.trans hl.1.symm) hown (hts (.methodLink RX5 64 arraycopyName) (by decide +kernel)) (hts (.native arraycopyName) (by decide +kernel)) (hts (.static arraycopyName) (by decide +kernel)) (hts (.initialized "java/lang/System") (by decide +kernel)) hK hP hD hS 16 5 0 0 rfl rfl rfl rfl rfl h1_5 h2_5 h3_5 h4_5 h5_5 (fun _ _ => rfl) (Nat.le_of_ble_eq_true rfl) (by decide) dX5_copyFrom_128 (fun H locs hP hD hS => ?_)
  obtain ⟨T_128, hP, hD, hf⟩ := st_nm (ws := fun T_128 : Tw => (wT cs a T_128 ++ wT cs b O)) ((T_113.1, va_up T_113.2 4 (va_cpy (O.2 4) (T_113.2 4) ((0 : Int32)).toNatClampNeg ((0 : Int32)).toNatClampNeg ((8 : Int32)).toNatClampNeg))) hP hD hf
  refine lv_aload_n hx hb dX5_copyFrom_131 rfl (lv_at hl 1 rfl) ?_
  refine va_get (D := (dC, dI)) (ci := 5) (v := .ref (b 6)) (C := RX5) (T := TX5) (N := 17) hx hb hts in_X5_copyFrom_X5 hown hK hP 11 rfl rfl 12 (by decide) (hts (.fieldLink RX5 27 "BackLoans$Town" "times" "[I") (by decide +kernel)) (fun _ h9 => h9) rfl dX5_copyFrom_132 ?_
  refine lv_iconst (v := 0) hx hb dX5_copyFrom_135 (by decide) ?_
  refine lv_aload_n hx hb dX5_copyFrom_136 rfl (lv_at hl 0 rfl) ?_
  refine va_get (D := (dC, dI)) (ci := 5) (v := .ref (a 6)) (C := RX5) (T := TX5) (N := 17) hx hb hts in_X5_copyFrom_X5 hown hK hP 0 rfl rfl 12 (by decide) (hts (.fieldLink RX5 27 "BackLoans$Town" "times" "[I") (by decide +kernel)) (fun _ h9 => h9) rfl dX5_copyFrom_137 ?_
  refine lv_iconst (v := 0) hx hb dX5_copyFrom_140 (by decide) ?_
  refine lv_bipush (v := 8) hx hb dX5_copyFrom_141 (by decide) ?_
  obtain ⟨⟨h1_6, h2_6, h3_6, h4_6, h5_6⟩, hf⟩ := gc_e hf
  refine va_copyi hx hb (hml.trans hl.1.symm) hown (hts (.methodLink RX5 64 arraycopyName) (by decide +kernel)) (hts (.native arraycopyName) (by decide +kernel)) (hts (.static arraycopyName) (by decide +kernel)) (hts (.initialized "java/lang/System") (by decide +kernel)) hK hP hD hS 17 6 0 0 rfl rfl rfl rfl rfl h1_6 h2_6 h3_6 h4_6 h5_6 (fun _ _ => rfl) (Nat.le_of_ble_eq_true rfl) (by decide) dX5_copyFrom_143 (fun H locs hP hD hS => ?_)
  obtain ⟨T_143, hP, hD, hf⟩ := st_nm (ws := fun T_143 : Tw => (wT cs a T_143 ++ wT cs b O)) ((T_128.1, va_up T_128.2 5 (va_cpy (O.2 5) (T_128.2 5) ((0 : Int32)).toNatClampNeg ((0 : Int32)).toNatClampNeg ((8 : Int32)).toNatClampNeg))) hP hD hf
  refine lv_aload_n hx hb dX5_copyFrom_146 rfl (lv_at hl 1 rfl) ?_
  refine va_get (D := (dC, dI)) (ci := 5) (v := .ref (b 7)) (C := RX5) (T := TX5) (N := 17) hx hb hts in_X5_copyFrom_X5 hown hK hP 11 rfl rfl 13 (by decide) (hts (.fieldLink RX5 30 "BackLoans$Town" "state" "[I") (by decide +kernel)) (fun _ h9 => h9) rfl dX5_copyFrom_147 ?_
  refine lv_iconst (v := 0) hx hb dX5_copyFrom_150 (by decide) ?_
  refine lv_aload_n hx hb dX5_copyFrom_151 rfl (lv_at hl 0 rfl) ?_
  refine va_get (D := (dC, dI)) (ci := 5) (v := .ref (a 7)) (C := RX5) (T := TX5) (N := 17) hx hb hts in_X5_copyFrom_X5 hown hK hP 0 rfl rfl 13 (by decide) (hts (.fieldLink RX5 30 "BackLoans$Town" "state" "[I") (by decide +kernel)) (fun _ h9 => h9) rfl dX5_copyFrom_152 ?_
  refine lv_iconst (v := 0) hx hb dX5_copyFrom_155 (by decide) ?_
  refine lv_bipush (v := 8) hx hb dX5_copyFrom_156 (by decide) ?_
  obtain ⟨⟨h1_7, h2_7, h3_7, h4_7, h5_7⟩, hf⟩ := gc_e hf
  refine va_copyi hx hb (hml.trans hl.1.symm) hown (hts (.methodLink RX5 64 arraycopyName) (by decide +kernel)) (hts (.native arraycopyName) (by decide +kernel)) (hts (.static arraycopyName) (by decide +kernel)) (hts (.initialized "java/lang/System") (by decide +kernel)) hK hP hD hS 18 7 0 0 rfl rfl rfl rfl rfl h1_7 h2_7 h3_7 h4_7 h5_7 (fun _ _ => rfl) (Nat.le_of_ble_eq_true rfl) (by decide) dX5_copyFrom_158 (fun H locs hP hD hS => ?_)
  obtain ⟨T_158, hP, hD, hf⟩ := st_nm (ws := fun T_158 : Tw => (wT cs a T_158 ++ wT cs b O)) ((T_143.1, va_up T_143.2 6 (va_cpy (O.2 6) (T_143.2 6) ((0 : Int32)).toNatClampNeg ((0 : Int32)).toNatClampNeg ((8 : Int32)).toNatClampNeg))) hP hD hf
  refine lv_aload_n hx hb dX5_copyFrom_161 rfl (lv_at hl 1 rfl) ?_
  refine va_get (D := (dC, dI)) (ci := 5) (v := .ref (b 8)) (C := RX5) (T := TX5) (N := 17) hx hb hts in_X5_copyFrom_X5 hown hK hP 11 rfl rfl 14 (by decide) (hts (.fieldLink RX5 33 "BackLoans$Town" "given" "[I") (by decide +kernel)) (fun _ h9 => h9) rfl dX5_copyFrom_162 ?_
  refine lv_iconst (v := 0) hx hb dX5_copyFrom_165 (by decide) ?_
  refine lv_aload_n hx hb dX5_copyFrom_166 rfl (lv_at hl 0 rfl) ?_
  refine va_get (D := (dC, dI)) (ci := 5) (v := .ref (a 8)) (C := RX5) (T := TX5) (N := 17) hx hb hts in_X5_copyFrom_X5 hown hK hP 0 rfl rfl 14 (by decide) (hts (.fieldLink RX5 33 "BackLoans$Town" "given" "[I") (by decide +kernel)) (fun _ h9 => h9) rfl dX5_copyFrom_167 ?_
  refine lv_iconst (v := 0) hx hb dX5_copyFrom_170 (by decide) ?_
  refine lv_bipush (v := 8) hx hb dX5_copyFrom_171 (by decide) ?_
  obtain ⟨⟨h1_8, h2_8, h3_8, h4_8, h5_8⟩, hf⟩ := gc_e hf
  refine va_copyi hx hb (hml.trans hl.1.symm) hown (hts (.methodLink RX5 64 arraycopyName) (by decide +kernel)) (hts (.native arraycopyName) (by decide +kernel)) (hts (.static arraycopyName) (by decide +kernel)) (hts (.initialized "java/lang/System") (by decide +kernel)) hK hP hD hS 19 8 0 0 rfl rfl rfl rfl rfl h1_8 h2_8 h3_8 h4_8 h5_8 (fun _ _ => rfl) (Nat.le_of_ble_eq_true rfl) (by decide) dX5_copyFrom_173 (fun H locs hP hD hS => ?_)
  obtain ⟨T_173, hP, hD, hf⟩ := st_nm (ws := fun T_173 : Tw => (wT cs a T_173 ++ wT cs b O)) ((T_158.1, va_up T_158.2 7 (va_cpy (O.2 7) (T_158.2 7) ((0 : Int32)).toNatClampNeg ((0 : Int32)).toNatClampNeg ((8 : Int32)).toNatClampNeg))) hP hD hf
  refine lv_aload_n hx hb dX5_copyFrom_176 rfl (lv_at hl 1 rfl) ?_
  refine va_get (D := (dC, dI)) (ci := 5) (v := .ref (b 9)) (C := RX5) (T := TX5) (N := 17) hx hb hts in_X5_copyFrom_X5 hown hK hP 11 rfl rfl 15 (by decide) (hts (.fieldLink RX5 36 "BackLoans$Town" "offerPence" "[I") (by decide +kernel)) (fun _ h9 => h9) rfl dX5_copyFrom_177 ?_
  refine lv_iconst (v := 0) hx hb dX5_copyFrom_180 (by decide) ?_
  refine lv_aload_n hx hb dX5_copyFrom_181 rfl (lv_at hl 0 rfl) ?_
  refine va_get (D := (dC, dI)) (ci := 5) (v := .ref (a 9)) (C := RX5) (T := TX5) (N := 17) hx hb hts in_X5_copyFrom_X5 hown hK hP 0 rfl rfl 15 (by decide) (hts (.fieldLink RX5 36 "BackLoans$Town" "offerPence" "[I") (by decide +kernel)) (fun _ h9 => h9) rfl dX5_copyFrom_182 ?_
  refine lv_iconst (v := 0) hx hb dX5_copyFrom_185 (by decide) ?_
  refine lv_bipush (v := 8) hx hb dX5_copyFrom_186 (by decide) ?_
  obtain ⟨⟨h1_9, h2_9, h3_9, h4_9, h5_9⟩, hf⟩ := gc_e hf
  refine va_copyi hx hb (hml.trans hl.1.symm) hown (hts (.methodLink RX5 64 arraycopyName) (by decide +kernel)) (hts (.native arraycopyName) (by decide +kernel)) (hts (.static arraycopyName) (by decide +kernel)) (hts (.initialized "java/lang/System") (by decide +kernel)) hK hP hD hS 20 9 0 0 rfl rfl rfl rfl rfl h1_9 h2_9 h3_9 h4_9 h5_9 (fun _ _ => rfl) (Nat.le_of_ble_eq_true rfl) (by decide) dX5_copyFrom_188 (fun H locs hP hD hS => ?_)
  obtain ⟨T_188, hP, hD, hf⟩ := st_nm (ws := fun T_188 : Tw => (wT cs a T_188 ++ wT cs b O)) ((T_173.1, va_up T_173.2 8 (va_cpy (O.2 8) (T_173.2 8) ((0 : Int32)).toNatClampNeg ((0 : Int32)).toNatClampNeg ((8 : Int32)).toNatClampNeg))) hP hD hf
  refine lv_aload_n hx hb dX5_copyFrom_191 rfl (lv_at hl 1 rfl) ?_
  refine va_get (D := (dC, dI)) (ci := 5) (v := .ref (b 10)) (C := RX5) (T := TX5) (N := 17) hx hb hts in_X5_copyFrom_X5 hown hK hP 11 rfl rfl 16 (by decide) (hts (.fieldLink RX5 39 "BackLoans$Town" "offerTimes" "[I") (by decide +kernel)) (fun _ h9 => h9) rfl dX5_copyFrom_192 ?_
  refine lv_iconst (v := 0) hx hb dX5_copyFrom_195 (by decide) ?_
  refine lv_aload_n hx hb dX5_copyFrom_196 rfl (lv_at hl 0 rfl) ?_
  refine va_get (D := (dC, dI)) (ci := 5) (v := .ref (a 10)) (C := RX5) (T := TX5) (N := 17) hx hb hts in_X5_copyFrom_X5 hown hK hP 0 rfl rfl 16 (by decide) (hts (.fieldLink RX5 39 "BackLoans$Town" "offerTimes" "[I") (by decide +kernel)) (fun _ h9 => h9) rfl dX5_copyFrom_197 ?_
  refine lv_iconst (v := 0) hx hb dX5_copyFrom_200 (by decide) ?_
  refine lv_bipush (v := 8) hx hb dX5_copyFrom_201 (by decide) ?_
  obtain ⟨⟨h1_10, h2_10, h3_10, h4_10, h5_10⟩, hf⟩ := gc_e hf
  refine va_copyi hx hb (hml.trans hl.1.symm) hown (hts (.methodLink RX5 64 arraycopyName) (by decide +kernel)) (hts (.native arraycopyName) (by decide +kernel)) (hts (.static arraycopyName) (by decide +kernel)) (hts (.initialized "java/lang/System") (by decide +kernel)) hK hP hD hS 21 10 0 0 rfl rfl rfl rfl rfl h1_10 h2_10 h3_10 h4_10 h5_10 (fun _ _ => rfl) (Nat.le_of_ble_eq_true rfl) (by decide) dX5_copyFrom_203 (fun H locs hP hD hS => ?_)
  obtain ⟨T_203, hP, hD, hf⟩ := st_nm (ws := fun T_203 : Tw => (wT cs a T_203 ++ wT cs b O)) ((T_188.1, va_up T_188.2 9 (va_cpy (O.2 9) (T_188.2 9) ((0 : Int32)).toNatClampNeg ((0 : Int32)).toNatClampNeg ((8 : Int32)).toNatClampNeg))) hP hD hf
  exact hR _ _ _ _ _ dX5_copyFrom_206 hf hP hD hS

theorem in_X5_makeEmpty_X5 : ∀ w ∈ wsX50, w ∈ wsX5_makeEmpty := by decide +kernel
def f_X5_makeEmpty  (T : Tw) : Option Tw :=
  lett ((upd T.1 0 ((0 : Int32)), T.2)) fun T_2 =>
  lett ((upd T_2.1 1 ((0 : Int32)), T_2.2)) fun T_7 =>
  lett ((upd T_7.1 2 ((0 : Int32)), T_7.2)) fun T_12 =>
  lett ((upd T_12.1 3 ((0 : Int32)), T_12.2)) fun T_17 =>
  lett ((upd T_17.1 4 ((0 : Int32)), T_17.2)) fun T_22 =>
  lett ((upd T_22.1 5 ((0 : Int32)), T_22.2)) fun T_27 =>
  lett ((upd T_27.1 6 ((0 : Int32)), T_27.2)) fun T_32 =>
  some T_32
set_option maxHeartbeats 4000000 in
set_option maxRecDepth 100000 in
theorem c_X5_makeEmpty (l : Launch) (dC : Nat → ClassId) (dI : Nat → Nat → Nat) (cs : Nat → ClassId) (a : Nat → Nat) (sz : Nat) (T : Tw)  (res : Tw) (hf : f_X5_makeEmpty T = some res) : Met l yX5_makeEmpty wsX5_makeEmpty ({ frames := 0, cells := 0, slots := 0, locals := 0 }) (va_Pc [.ref (a 0)] (fun U => U.heap.size = sz ∧ va_P (dC, dI) vwCl (wT cs a T) U.heap ∧ GE dC dI cs U ∧ va_D (fun _ => True) (wT cs a T))) (va_Qv (fun u : Tw => u = res) (fun u t => va_P (dC, dI) vwCl ((fun u : Tw => (wT cs a u)) u) t.heap ∧ va_D (va_A (wT cs a T) sz) ((fun u : Tw => (wT cs a u)) u)) (va_A (wT cs a T) sz)) 0 0 (va_A (wT cs a T) sz) := by
  refine Met.ofW (cc := cX5_makeEmpty) (maxL := 1) (ret := none) (by decide) rfl ?_
  intro p e s m args below meth c s₁ B hml hv
  obtain ⟨rfl, hsz, hP, G, hD0⟩ := hv
  have hts := atoms_spec (ws := wsX5_makeEmpty) B.pre
  have hown : s.vm.findClass RX5 = some m.cls := findClass_of_methodNamed B.named
  have hlocks := B.notSynchronized
  have hx := B.exec
  have hb := B.bytes
  have hr := B.returns
  have C : CallFix p m c cX5_makeEmpty 1 s _ wsX5_makeEmpty RX5 := ⟨hx, hb, hml, hown, hts⟩
  obtain ⟨hK, hN⟩ := id G
  subst hsz
  have hD := hD0.self (sz := s.heap.size)
  generalize hAe : va_A (wT cs a T) s.heap.size = A at hD ⊢
  have hA : ∀ q : Nat, s.heap.size ≤ q → A q := fun q h => by rw [← hAe]; exact Or.inr h
  have hS : va_S A s.heap s.heap [] := va_S.rf
  have hR : RTv p l e ({ frames := 0, cells := 0, slots := 0, locals := 0 }) s m ([.ref (a 0)] : List Value).toArray below meth c cX5_makeEmpty (MQ below (va_Qv (fun u : Tw => u = res) (fun u t => va_P (dC, dI) vwCl ((fun u : Tw => (wT cs a u)) u) t.heap ∧ va_D A ((fun u : Tw => (wT cs a u)) u)) A) ([.ref (a 0)] : List Value).toArray s 0 0 A) (dC, dI) A (fun u : Tw => (wT cs a u)) res := fun H locs pc ls u dd h hP hD hS => W.vret hx hb hr (fun t ht hW => ⟨⟨u, rfl, by cases h; rfl, by rw [ht]; exact hP, hD⟩, hS.F ht⟩) hS.2.2 dd
  have hl := lv_entry ([.ref (a 0)]) (n := 1) (Nat.le_of_ble_eq_true rfl)
  rw [lg_entry_eq]
  generalize (lg_sl ([.ref (a 0)]) ++ List.replicate (1 - (lg_sl ([.ref (a 0)])).length) Slot.unset).toArray = ls at hl ⊢
  have hl : lv_has ls 1 [(0, .ref (a 0))] := hl
  unfold f_X5_makeEmpty at hf
  refine lv_aload_n hx hb dX5_makeEmpty_0 rfl (lv_at hl 0 rfl) ?_
  refine lv_iconst (v := 0) hx hb dX5_makeEmpty_1 (by decide) ?_
  refine va_put (D := (dC, dI)) (ci := 5) (v := .int ((0 : Int32))) (ty := .int) (C := RX5) (T := TX5) (N := 17) hx hb hts in_X5_makeEmpty_X5 tyX5 tyX5_ok nmX5 hown hK hP hD hS 0 rfl rfl 0 (by decide) (hts (.fieldLink RX5 42 "BackLoans$Town" "chest" "I") (by decide +kernel)) (fun _ h9 => h9) rfl (by decide +kernel) rfl rfl (Nat.le_of_ble_eq_true rfl) dX5_makeEmpty_2 (fun H locs hP hD hS => ?_)
  obtain ⟨T_2, hP, hD, hf⟩ := st_nm (ws := fun T_2 : Tw => (wT cs a T_2)) ((upd T.1 0 ((0 : Int32)), T.2)) hP hD hf
  refine lv_aload_n hx hb dX5_makeEmpty_5 rfl (lv_at hl 0 rfl) ?_
  refine lv_iconst (v := 0) hx hb dX5_makeEmpty_6 (by decide) ?_
  refine va_put (D := (dC, dI)) (ci := 5) (v := .int ((0 : Int32))) (ty := .int) (C := RX5) (T := TX5) (N := 17) hx hb hts in_X5_makeEmpty_X5 tyX5 tyX5_ok nmX5 hown hK hP hD hS 0 rfl rfl 1 (by decide) (hts (.fieldLink RX5 46 "BackLoans$Town" "rate" "I") (by decide +kernel)) (fun _ h9 => h9) rfl (by decide +kernel) rfl rfl (Nat.le_of_ble_eq_true rfl) dX5_makeEmpty_7 (fun H locs hP hD hS => ?_)
  obtain ⟨T_7, hP, hD, hf⟩ := st_nm (ws := fun T_7 : Tw => (wT cs a T_7)) ((upd T_2.1 1 ((0 : Int32)), T_2.2)) hP hD hf
  refine lv_aload_n hx hb dX5_makeEmpty_10 rfl (lv_at hl 0 rfl) ?_
  refine lv_iconst (v := 0) hx hb dX5_makeEmpty_11 (by decide) ?_
  refine va_put (D := (dC, dI)) (ci := 5) (v := .int ((0 : Int32))) (ty := .int) (C := RX5) (T := TX5) (N := 17) hx hb hts in_X5_makeEmpty_X5 tyX5 tyX5_ok nmX5 hown hK hP hD hS 0 rfl rfl 2 (by decide) (hts (.fieldLink RX5 49 "BackLoans$Town" "month" "I") (by decide +kernel)) (fun _ h9 => h9) rfl (by decide +kernel) rfl rfl (Nat.le_of_ble_eq_true rfl) dX5_makeEmpty_12 (fun H locs hP hD hS => ?_)
  obtain ⟨T_12, hP, hD, hf⟩ := st_nm (ws := fun T_12 : Tw => (wT cs a T_12)) ((upd T_7.1 2 ((0 : Int32)), T_7.2)) hP hD hf
  refine lv_aload_n hx hb dX5_makeEmpty_15 rfl (lv_at hl 0 rfl) ?_
  refine lv_iconst (v := 0) hx hb dX5_makeEmpty_16 (by decide) ?_
  refine va_put (D := (dC, dI)) (ci := 5) (v := .int ((0 : Int32))) (ty := .int) (C := RX5) (T := TX5) (N := 17) hx hb hts in_X5_makeEmpty_X5 tyX5 tyX5_ok nmX5 hown hK hP hD hS 0 rfl rfl 3 (by decide) (hts (.fieldLink RX5 52 "BackLoans$Town" "lacks" "I") (by decide +kernel)) (fun _ h9 => h9) rfl (by decide +kernel) rfl rfl (Nat.le_of_ble_eq_true rfl) dX5_makeEmpty_17 (fun H locs hP hD hS => ?_)
  obtain ⟨T_17, hP, hD, hf⟩ := st_nm (ws := fun T_17 : Tw => (wT cs a T_17)) ((upd T_12.1 3 ((0 : Int32)), T_12.2)) hP hD hf
  refine lv_aload_n hx hb dX5_makeEmpty_20 rfl (lv_at hl 0 rfl) ?_
  refine lv_iconst (v := 0) hx hb dX5_makeEmpty_21 (by decide) ?_
  refine va_put (D := (dC, dI)) (ci := 5) (v := .int ((0 : Int32))) (ty := .int) (C := RX5) (T := TX5) (N := 17) hx hb hts in_X5_makeEmpty_X5 tyX5 tyX5_ok nmX5 hown hK hP hD hS 0 rfl rfl 4 (by decide) (hts (.fieldLink RX5 55 "BackLoans$Town" "people" "I") (by decide +kernel)) (fun _ h9 => h9) rfl (by decide +kernel) rfl rfl (Nat.le_of_ble_eq_true rfl) dX5_makeEmpty_22 (fun H locs hP hD hS => ?_)
  obtain ⟨T_22, hP, hD, hf⟩ := st_nm (ws := fun T_22 : Tw => (wT cs a T_22)) ((upd T_17.1 4 ((0 : Int32)), T_17.2)) hP hD hf
  refine lv_aload_n hx hb dX5_makeEmpty_25 rfl (lv_at hl 0 rfl) ?_
  refine lv_iconst (v := 0) hx hb dX5_makeEmpty_26 (by decide) ?_
  refine va_put (D := (dC, dI)) (ci := 5) (v := .int ((0 : Int32))) (ty := .int) (C := RX5) (T := TX5) (N := 17) hx hb hts in_X5_makeEmpty_X5 tyX5 tyX5_ok nmX5 hown hK hP hD hS 0 rfl rfl 5 (by decide) (hts (.fieldLink RX5 58 "BackLoans$Town" "loans" "I") (by decide +kernel)) (fun _ h9 => h9) rfl (by decide +kernel) rfl rfl (Nat.le_of_ble_eq_true rfl) dX5_makeEmpty_27 (fun H locs hP hD hS => ?_)
  obtain ⟨T_27, hP, hD, hf⟩ := st_nm (ws := fun T_27 : Tw => (wT cs a T_27)) ((upd T_22.1 5 ((0 : Int32)), T_22.2)) hP hD hf
  refine lv_aload_n hx hb dX5_makeEmpty_30 rfl (lv_at hl 0 rfl) ?_
  refine lv_iconst (v := 0) hx hb dX5_makeEmpty_31 (by decide) ?_
  refine va_put (D := (dC, dI)) (ci := 5) (v := .int ((0 : Int32))) (ty := .int) (C := RX5) (T := TX5) (N := 17) hx hb hts in_X5_makeEmpty_X5 tyX5 tyX5_ok nmX5 hown hK hP hD hS 0 rfl rfl 6 (by decide) (hts (.fieldLink RX5 61 "BackLoans$Town" "offers" "I") (by decide +kernel)) (fun _ h9 => h9) rfl (by decide +kernel) rfl rfl (Nat.le_of_ble_eq_true rfl) dX5_makeEmpty_32 (fun H locs hP hD hS => ?_)
  obtain ⟨T_32, hP, hD, hf⟩ := st_nm (ws := fun T_32 : Tw => (wT cs a T_32)) ((upd T_27.1 6 ((0 : Int32)), T_27.2)) hP hD hf
  exact hR _ _ _ _ _ dX5_makeEmpty_35 hf hP hD hS

theorem in_X5_hasPerson_X5 : ∀ w ∈ wsX50, w ∈ wsX5_hasPerson := by decide +kernel
def f_X5_hasPerson (x1 : Int32) (T : Tw) : Option Int32 :=
  if x1 < 0 then (
    some (0 : Int32)
  ) else (
    if (T.1 4) ≤ x1 then (
      some (0 : Int32)
    ) else (
      some (1 : Int32)
    )
  )
set_option maxHeartbeats 4000000 in
set_option maxRecDepth 100000 in
theorem c_X5_hasPerson (l : Launch) (dC : Nat → ClassId) (dI : Nat → Nat → Nat) (cs : Nat → ClassId) (a : Nat → Nat) (T : Tw) (x1 : Int32) (res : Int32) (hf : f_X5_hasPerson x1 T = some res) : Met l yX5_hasPerson wsX5_hasPerson ({ frames := 0, cells := 0, slots := 0, locals := 0 }) (va_Pc [.ref (a 0), .int (x1)] (fun U => va_P (dC, dI) vwCl (wT cs a T) U.heap ∧ GE dC dI cs U)) (vp_Si (fun r => r = res ∧ narrow .boolean (.int r) = .int r)) 0 0 (fun _ => False) := by
  refine Met.ofW (cc := cX5_hasPerson) (maxL := 2) (ret := (some .boolean)) (by decide) rfl ?_
  intro p e s m args below meth c s₁ B hml hv
  obtain ⟨rfl, hP, G⟩ := hv
  have hts := atoms_spec (ws := wsX5_hasPerson) B.pre
  have hown : s.vm.findClass RX5 = some m.cls := findClass_of_methodNamed B.named
  have hlocks := B.notSynchronized
  have hx := B.exec
  have hb := B.bytes
  have hr := B.returns
  have C : CallFix p m c cX5_hasPerson 2 s _ wsX5_hasPerson RX5 := ⟨hx, hb, hml, hown, hts⟩
  obtain ⟨hK, hN⟩ := id G
  have hR : RPz p l e ({ frames := 0, cells := 0, slots := 0, locals := 0 }) s m ([.ref (a 0), .int (x1)] : List Value).toArray below meth c cX5_hasPerson (MQ below (vp_Si (fun r => r = res ∧ narrow .boolean (.int r) = .int r)) ([.ref (a 0), .int (x1)] : List Value).toArray s 0 0 (fun _ => False)) res := fun pc ls r dd hn h => W.zret hx hb hr hn (fun t ht hW => ⟨r, rfl, ⟨Option.some.inj h, hn⟩, ht⟩) (fun q hq => by cases hq) dd
  have hl := lv_entry ([.ref (a 0), .int (x1)]) (n := 2) (Nat.le_of_ble_eq_true rfl)
  rw [lg_entry_eq]
  generalize (lg_sl ([.ref (a 0), .int (x1)]) ++ List.replicate (2 - (lg_sl ([.ref (a 0), .int (x1)])).length) Slot.unset).toArray = ls at hl ⊢
  have hl : lv_has ls 2 [(0, .ref (a 0)), (1, .int (x1))] := hl
  unfold f_X5_hasPerson at hf
  refine lv_iload_n hx hb dX5_hasPerson_0 rfl (lv_at hl 1 rfl) ?_
  refine lv_if_lt (tgt := 16) hx hb dX5_hasPerson_1 (by decide) (fun c1 => ?_) (fun c1 => ?_)
  · replace hf := it_t c1 hf
    refine lv_iconst (v := 0) hx hb dX5_hasPerson_16 (by decide) ?_
    exact hR _ _ _ dX5_hasPerson_17 (by decide) hf
  · replace hf := it_f c1 hf
    refine lv_iload_n hx hb dX5_hasPerson_4 rfl (lv_at hl 1 rfl) ?_
    refine lv_aload_n hx hb dX5_hasPerson_5 rfl (lv_at hl 0 rfl) ?_
    refine va_get (D := (dC, dI)) (ci := 5) (v := .int ((T.1 4))) (C := RX5) (T := TX5) (N := 17) hx hb hts in_X5_hasPerson_X5 hown hK hP 0 rfl rfl 4 (by decide) (hts (.fieldLink RX5 55 "BackLoans$Town" "people" "I") (by decide +kernel)) (fun _ h9 => h9) rfl dX5_hasPerson_6 ?_
    refine lv_icmp_ge (tgt := 16) hx hb dX5_hasPerson_9 (by decide) (fun c2 => ?_) (fun c2 => ?_)
    · replace hf := it_t c2 hf
      refine lv_iconst (v := 0) hx hb dX5_hasPerson_16 (by decide) ?_
      exact hR _ _ _ dX5_hasPerson_17 (by decide) hf
    · replace hf := it_f c2 hf
      refine lv_iconst (v := 1) hx hb dX5_hasPerson_12 (by decide) ?_
      refine lv_goto (tgt := 17) hx hb dX5_hasPerson_13 (by decide) ?_
      exact hR _ _ _ dX5_hasPerson_17 (by decide) hf

theorem in_X5_hasLoan_X5 : ∀ w ∈ wsX50, w ∈ wsX5_hasLoan := by decide +kernel
def f_X5_hasLoan (x1 : Int32) (T : Tw) : Option Int32 :=
  if x1 < 0 then (
    some (0 : Int32)
  ) else (
    if (T.1 5) ≤ x1 then (
      some (0 : Int32)
    ) else (
      some (1 : Int32)
    )
  )
set_option maxHeartbeats 4000000 in
set_option maxRecDepth 100000 in
theorem c_X5_hasLoan (l : Launch) (dC : Nat → ClassId) (dI : Nat → Nat → Nat) (cs : Nat → ClassId) (a : Nat → Nat) (T : Tw) (x1 : Int32) (res : Int32) (hf : f_X5_hasLoan x1 T = some res) : Met l yX5_hasLoan wsX5_hasLoan ({ frames := 0, cells := 0, slots := 0, locals := 0 }) (va_Pc [.ref (a 0), .int (x1)] (fun U => va_P (dC, dI) vwCl (wT cs a T) U.heap ∧ GE dC dI cs U)) (vp_Si (fun r => r = res ∧ narrow .boolean (.int r) = .int r)) 0 0 (fun _ => False) := by
  refine Met.ofW (cc := cX5_hasLoan) (maxL := 2) (ret := (some .boolean)) (by decide) rfl ?_
  intro p e s m args below meth c s₁ B hml hv
  obtain ⟨rfl, hP, G⟩ := hv
  have hts := atoms_spec (ws := wsX5_hasLoan) B.pre
  have hown : s.vm.findClass RX5 = some m.cls := findClass_of_methodNamed B.named
  have hlocks := B.notSynchronized
  have hx := B.exec
  have hb := B.bytes
  have hr := B.returns
  have C : CallFix p m c cX5_hasLoan 2 s _ wsX5_hasLoan RX5 := ⟨hx, hb, hml, hown, hts⟩
  obtain ⟨hK, hN⟩ := id G
  have hR : RPz p l e ({ frames := 0, cells := 0, slots := 0, locals := 0 }) s m ([.ref (a 0), .int (x1)] : List Value).toArray below meth c cX5_hasLoan (MQ below (vp_Si (fun r => r = res ∧ narrow .boolean (.int r) = .int r)) ([.ref (a 0), .int (x1)] : List Value).toArray s 0 0 (fun _ => False)) res := fun pc ls r dd hn h => W.zret hx hb hr hn (fun t ht hW => ⟨r, rfl, ⟨Option.some.inj h, hn⟩, ht⟩) (fun q hq => by cases hq) dd
  have hl := lv_entry ([.ref (a 0), .int (x1)]) (n := 2) (Nat.le_of_ble_eq_true rfl)
  rw [lg_entry_eq]
  generalize (lg_sl ([.ref (a 0), .int (x1)]) ++ List.replicate (2 - (lg_sl ([.ref (a 0), .int (x1)])).length) Slot.unset).toArray = ls at hl ⊢
  have hl : lv_has ls 2 [(0, .ref (a 0)), (1, .int (x1))] := hl
  unfold f_X5_hasLoan at hf
  refine lv_iload_n hx hb dX5_hasLoan_0 rfl (lv_at hl 1 rfl) ?_
  refine lv_if_lt (tgt := 16) hx hb dX5_hasLoan_1 (by decide) (fun c1 => ?_) (fun c1 => ?_)
  · replace hf := it_t c1 hf
    refine lv_iconst (v := 0) hx hb dX5_hasLoan_16 (by decide) ?_
    exact hR _ _ _ dX5_hasLoan_17 (by decide) hf
  · replace hf := it_f c1 hf
    refine lv_iload_n hx hb dX5_hasLoan_4 rfl (lv_at hl 1 rfl) ?_
    refine lv_aload_n hx hb dX5_hasLoan_5 rfl (lv_at hl 0 rfl) ?_
    refine va_get (D := (dC, dI)) (ci := 5) (v := .int ((T.1 5))) (C := RX5) (T := TX5) (N := 17) hx hb hts in_X5_hasLoan_X5 hown hK hP 0 rfl rfl 5 (by decide) (hts (.fieldLink RX5 58 "BackLoans$Town" "loans" "I") (by decide +kernel)) (fun _ h9 => h9) rfl dX5_hasLoan_6 ?_
    refine lv_icmp_ge (tgt := 16) hx hb dX5_hasLoan_9 (by decide) (fun c2 => ?_) (fun c2 => ?_)
    · replace hf := it_t c2 hf
      refine lv_iconst (v := 0) hx hb dX5_hasLoan_16 (by decide) ?_
      exact hR _ _ _ dX5_hasLoan_17 (by decide) hf
    · replace hf := it_f c2 hf
      refine lv_iconst (v := 1) hx hb dX5_hasLoan_12 (by decide) ?_
      refine lv_goto (tgt := 17) hx hb dX5_hasLoan_13 (by decide) ?_
      exact hR _ _ _ dX5_hasLoan_17 (by decide) hf

theorem in_X5_addPerson_X5 : ∀ w ∈ wsX50, w ∈ wsX5_addPerson := by decide +kernel
def f_X5_addPerson (x1 : Int32) (x2 : Int32) (x3 : Int32) (T : Tw) : Option (Int32 × Tw) :=
  if (T.1 4) < (6 : Int32) then (
    gi ((T.1 4)) 6 <|
    lett ((T.1, va_up T.2 0 (upd (T.2 0) ((T.1 4)).toNatClampNeg (x1)))) fun T_21 =>
    gi ((T_21.1 4)) 6 <|
    lett ((T_21.1, va_up T_21.2 1 (upd (T_21.2 1) ((T_21.1 4)).toNatClampNeg (x2)))) fun T_31 =>
    gi ((T_31.1 4)) 6 <|
    lett ((T_31.1, va_up T_31.2 2 (upd (T_31.2 2) ((T_31.1 4)).toNatClampNeg (x3)))) fun T_41 =>
    lett ((upd T_41.1 4 (((T_41.1 4) + (1 : Int32))), T_41.2)) fun T_49 =>
    some (((T_49.1 4) - (1 : Int32)), T_49)
  ) else (
    some ((-4 : Int32), T)
  )
set_option maxHeartbeats 4000000 in
set_option maxRecDepth 100000 in
theorem c_X5_addPerson (l : Launch) (dC : Nat → ClassId) (dI : Nat → Nat → Nat) (cs : Nat → ClassId) (a : Nat → Nat) (sz : Nat) (T : Tw) (x1 : Int32) (x2 : Int32) (x3 : Int32) (res : Int32 × Tw) (hf : f_X5_addPerson x1 x2 x3 T = some res) : Met l yX5_addPerson wsX5_addPerson ({ frames := 0, cells := 0, slots := 0, locals := 0 }) (va_Pc [.ref (a 0), .int (x1), .int (x2), .int (x3)] (fun U => U.heap.size = sz ∧ va_P (dC, dI) vwCl (wT cs a T) U.heap ∧ GE dC dI cs U ∧ va_D (fun _ => True) (wT cs a T))) (va_Qi (fun r (u : Tw) => r = res.1 ∧ u = res.2) (fun u t => va_P (dC, dI) vwCl ((fun u : Tw => (wT cs a u)) u) t.heap ∧ va_D (va_A (wT cs a T) sz) ((fun u : Tw => (wT cs a u)) u)) (va_A (wT cs a T) sz)) 0 0 (va_A (wT cs a T) sz) := by
  refine Met.ofW (cc := cX5_addPerson) (maxL := 4) (ret := (some .int)) (by decide) rfl ?_
  intro p e s m args below meth c s₁ B hml hv
  obtain ⟨rfl, hsz, hP, G, hD0⟩ := hv
  have hts := atoms_spec (ws := wsX5_addPerson) B.pre
  have hown : s.vm.findClass RX5 = some m.cls := findClass_of_methodNamed B.named
  have hlocks := B.notSynchronized
  have hx := B.exec
  have hb := B.bytes
  have hr := B.returns
  have C : CallFix p m c cX5_addPerson 4 s _ wsX5_addPerson RX5 := ⟨hx, hb, hml, hown, hts⟩
  obtain ⟨hK, hN⟩ := id G
  subst hsz
  have hD := hD0.self (sz := s.heap.size)
  generalize hAe : va_A (wT cs a T) s.heap.size = A at hD ⊢
  have hA : ∀ q : Nat, s.heap.size ≤ q → A q := fun q h => by rw [← hAe]; exact Or.inr h
  have hS : va_S A s.heap s.heap [] := va_S.rf
  have hR : RTi p l e ({ frames := 0, cells := 0, slots := 0, locals := 0 }) s m ([.ref (a 0), .int (x1), .int (x2), .int (x3)] : List Value).toArray below meth c cX5_addPerson (MQ below (va_Qi (fun r (u : Tw) => r = res.1 ∧ u = res.2) (fun u t => va_P (dC, dI) vwCl ((fun u : Tw => (wT cs a u)) u) t.heap ∧ va_D A ((fun u : Tw => (wT cs a u)) u)) A) ([.ref (a 0), .int (x1), .int (x2), .int (x3)] : List Value).toArray s 0 0 A) (dC, dI) A (fun u : Tw => (wT cs a u)) res := fun H locs pc ls r u dd h hP hD hS => W.iret hx hb hr (fun t ht hW => ⟨⟨r, u, rfl, by cases h; exact ⟨rfl, rfl⟩, by rw [ht]; exact hP, hD⟩, hS.F ht⟩) hS.2.2 dd
  have hl := lv_entry ([.ref (a 0), .int (x1), .int (x2), .int (x3)]) (n := 4) (Nat.le_of_ble_eq_true rfl)
  rw [lg_entry_eq]
  generalize (lg_sl ([.ref (a 0), .int (x1), .int (x2), .int (x3)]) ++ List.replicate (4 - (lg_sl ([.ref (a 0), .int (x1), .int (x2), .int (x3)])).length) Slot.unset).toArray = ls at hl ⊢
  have hl : lv_has ls 4 [(0, .ref (a 0)), (1, .int (x1)), (2, .int (x2)), (3, .int (x3))] := hl
  unfold f_X5_addPerson at hf
  refine lv_aload_n hx hb dX5_addPerson_0 rfl (lv_at hl 0 rfl) ?_
  refine va_get (D := (dC, dI)) (ci := 5) (v := .int ((T.1 4))) (C := RX5) (T := TX5) (N := 17) hx hb hts in_X5_addPerson_X5 hown hK hP 0 rfl rfl 4 (by decide) (hts (.fieldLink RX5 55 "BackLoans$Town" "people" "I") (by decide +kernel)) (fun _ h9 => h9) rfl dX5_addPerson_1 ?_
  refine lv_bipush (v := 6) hx hb dX5_addPerson_4 (by decide) ?_
  refine lv_icmp_lt (tgt := 12) hx hb dX5_addPerson_6 (by decide) (fun c1 => ?_) (fun c1 => ?_)
  · replace hf := it_t c1 hf
    refine lv_aload_n hx hb dX5_addPerson_12 rfl (lv_at hl 0 rfl) ?_
    refine va_get (D := (dC, dI)) (ci := 5) (v := .ref (a 1)) (C := RX5) (T := TX5) (N := 17) hx hb hts in_X5_addPerson_X5 hown hK hP 0 rfl rfl 7 (by decide) (hts (.fieldLink RX5 9 "BackLoans$Town" "kind" "[I") (by decide +kernel)) (fun _ h9 => h9) rfl dX5_addPerson_13 ?_
    refine lv_aload_n hx hb dX5_addPerson_16 rfl (lv_at hl 0 rfl) ?_
    refine va_get (D := (dC, dI)) (ci := 5) (v := .int ((T.1 4))) (C := RX5) (T := TX5) (N := 17) hx hb hts in_X5_addPerson_X5 hown hK hP 0 rfl rfl 4 (by decide) (hts (.fieldLink RX5 55 "BackLoans$Town" "people" "I") (by decide +kernel)) (fun _ h9 => h9) rfl dX5_addPerson_17 ?_
    refine lv_iload_n hx hb dX5_addPerson_20 rfl (lv_at hl 1 rfl) ?_
    obtain ⟨hi2, hf⟩ := gi_e hf
    refine va_iast hx hb hK hP hD hS 1 0 rfl rfl hi2 dX5_addPerson_21 (fun H locs hP hD hS => ?_)
    obtain ⟨T_21, hP, hD, hf⟩ := st_nm (ws := fun T_21 : Tw => (wT cs a T_21)) ((T.1, va_up T.2 0 (upd (T.2 0) ((T.1 4)).toNatClampNeg (x1)))) hP hD hf
    refine lv_aload_n hx hb dX5_addPerson_22 rfl (lv_at hl 0 rfl) ?_
    refine va_get (D := (dC, dI)) (ci := 5) (v := .ref (a 2)) (C := RX5) (T := TX5) (N := 17) hx hb hts in_X5_addPerson_X5 hown hK hP 0 rfl rfl 8 (by decide) (hts (.fieldLink RX5 15 "BackLoans$Town" "means" "[I") (by decide +kernel)) (fun _ h9 => h9) rfl dX5_addPerson_23 ?_
    refine lv_aload_n hx hb dX5_addPerson_26 rfl (lv_at hl 0 rfl) ?_
    refine va_get (D := (dC, dI)) (ci := 5) (v := .int ((T_21.1 4))) (C := RX5) (T := TX5) (N := 17) hx hb hts in_X5_addPerson_X5 hown hK hP 0 rfl rfl 4 (by decide) (hts (.fieldLink RX5 55 "BackLoans$Town" "people" "I") (by decide +kernel)) (fun _ h9 => h9) rfl dX5_addPerson_27 ?_
    refine lv_iload_n hx hb dX5_addPerson_30 rfl (lv_at hl 2 rfl) ?_
    obtain ⟨hi3, hf⟩ := gi_e hf
    refine va_iast hx hb hK hP hD hS 2 0 rfl rfl hi3 dX5_addPerson_31 (fun H locs hP hD hS => ?_)
    obtain ⟨T_31, hP, hD, hf⟩ := st_nm (ws := fun T_31 : Tw => (wT cs a T_31)) ((T_21.1, va_up T_21.2 1 (upd (T_21.2 1) ((T_21.1 4)).toNatClampNeg (x2)))) hP hD hf
    refine lv_aload_n hx hb dX5_addPerson_32 rfl (lv_at hl 0 rfl) ?_
    refine va_get (D := (dC, dI)) (ci := 5) (v := .ref (a 3)) (C := RX5) (T := TX5) (N := 17) hx hb hts in_X5_addPerson_X5 hown hK hP 0 rfl rfl 9 (by decide) (hts (.fieldLink RX5 18 "BackLoans$Town" "purse" "[I") (by decide +kernel)) (fun _ h9 => h9) rfl dX5_addPerson_33 ?_
    refine lv_aload_n hx hb dX5_addPerson_36 rfl (lv_at hl 0 rfl) ?_
    refine va_get (D := (dC, dI)) (ci := 5) (v := .int ((T_31.1 4))) (C := RX5) (T := TX5) (N := 17) hx hb hts in_X5_addPerson_X5 hown hK hP 0 rfl rfl 4 (by decide) (hts (.fieldLink RX5 55 "BackLoans$Town" "people" "I") (by decide +kernel)) (fun _ h9 => h9) rfl dX5_addPerson_37 ?_
    refine lv_iload_n hx hb dX5_addPerson_40 rfl (lv_at hl 3 rfl) ?_
    obtain ⟨hi4, hf⟩ := gi_e hf
    refine va_iast hx hb hK hP hD hS 3 0 rfl rfl hi4 dX5_addPerson_41 (fun H locs hP hD hS => ?_)
    obtain ⟨T_41, hP, hD, hf⟩ := st_nm (ws := fun T_41 : Tw => (wT cs a T_41)) ((T_31.1, va_up T_31.2 2 (upd (T_31.2 2) ((T_31.1 4)).toNatClampNeg (x3)))) hP hD hf
    refine lv_aload_n hx hb dX5_addPerson_42 rfl (lv_at hl 0 rfl) ?_
    refine lv_dup hx hb dX5_addPerson_43 rfl ?_
    refine va_get (D := (dC, dI)) (ci := 5) (v := .int ((T_41.1 4))) (C := RX5) (T := TX5) (N := 17) hx hb hts in_X5_addPerson_X5 hown hK hP 0 rfl rfl 4 (by decide) (hts (.fieldLink RX5 55 "BackLoans$Town" "people" "I") (by decide +kernel)) (fun _ h9 => h9) rfl dX5_addPerson_44 ?_
    refine lv_iconst (v := 1) hx hb dX5_addPerson_47 (by decide) ?_
    refine lv_iadd hx hb dX5_addPerson_48 ?_
    refine va_put (D := (dC, dI)) (ci := 5) (v := .int (((T_41.1 4) + (1 : Int32)))) (ty := .int) (C := RX5) (T := TX5) (N := 17) hx hb hts in_X5_addPerson_X5 tyX5 tyX5_ok nmX5 hown hK hP hD hS 0 rfl rfl 4 (by decide) (hts (.fieldLink RX5 55 "BackLoans$Town" "people" "I") (by decide +kernel)) (fun _ h9 => h9) rfl (by decide +kernel) rfl rfl (Nat.le_of_ble_eq_true rfl) dX5_addPerson_49 (fun H locs hP hD hS => ?_)
    obtain ⟨T_49, hP, hD, hf⟩ := st_nm (ws := fun T_49 : Tw => (wT cs a T_49)) ((upd T_41.1 4 (((T_41.1 4) + (1 : Int32))), T_41.2)) hP hD hf
    refine lv_aload_n hx hb dX5_addPerson_52 rfl (lv_at hl 0 rfl) ?_
    refine va_get (D := (dC, dI)) (ci := 5) (v := .int ((T_49.1 4))) (C := RX5) (T := TX5) (N := 17) hx hb hts in_X5_addPerson_X5 hown hK hP 0 rfl rfl 4 (by decide) (hts (.fieldLink RX5 55 "BackLoans$Town" "people" "I") (by decide +kernel)) (fun _ h9 => h9) rfl dX5_addPerson_53 ?_
    refine lv_iconst (v := 1) hx hb dX5_addPerson_56 (by decide) ?_
    refine lv_isub hx hb dX5_addPerson_57 ?_
    exact hR _ _ _ _ _ _ dX5_addPerson_58 hf hP hD hS
  · replace hf := it_f c1 hf
    refine lv_bipush (v := -4) hx hb dX5_addPerson_9 (by decide) ?_
    exact hR _ _ _ _ _ _ dX5_addPerson_11 hf hP hD hS

theorem in_X5_addLoan_X5 : ∀ w ∈ wsX50, w ∈ wsX5_addLoan := by decide +kernel
def f_X5_addLoan (x1 : Int32) (x2 : Int32) (x3 : Int32) (T : Tw) : Option (Int32 × Tw) :=
  if (T.1 5) < (8 : Int32) then (
    gi ((T.1 5)) 8 <|
    lett ((T.1, va_up T.2 3 (upd (T.2 3) ((T.1 5)).toNatClampNeg (x1)))) fun T_21 =>
    gi ((T_21.1 5)) 8 <|
    lett ((T_21.1, va_up T_21.2 4 (upd (T_21.2 4) ((T_21.1 5)).toNatClampNeg (x2)))) fun T_31 =>
    gi ((T_31.1 5)) 8 <|
    lett ((T_31.1, va_up T_31.2 5 (upd (T_31.2 5) ((T_31.1 5)).toNatClampNeg (x3)))) fun T_41 =>
    gi ((T_41.1 5)) 8 <|
    lett ((T_41.1, va_up T_41.2 6 (upd (T_41.2 6) ((T_41.1 5)).toNatClampNeg ((0 : Int32))))) fun T_51 =>
    gi ((T_51.1 5)) 8 <|
    lett ((T_51.1, va_up T_51.2 7 (upd (T_51.2 7) ((T_51.1 5)).toNatClampNeg ((0 : Int32))))) fun T_61 =>
    lett ((upd T_61.1 5 (((T_61.1 5) + (1 : Int32))), T_61.2)) fun T_69 =>
    some (((T_69.1 5) - (1 : Int32)), T_69)
  ) else (
    some ((-4 : Int32), T)
  )
set_option maxHeartbeats 4000000 in
set_option maxRecDepth 100000 in
theorem c_X5_addLoan (l : Launch) (dC : Nat → ClassId) (dI : Nat → Nat → Nat) (cs : Nat → ClassId) (a : Nat → Nat) (sz : Nat) (T : Tw) (x1 : Int32) (x2 : Int32) (x3 : Int32) (res : Int32 × Tw) (hf : f_X5_addLoan x1 x2 x3 T = some res) : Met l yX5_addLoan wsX5_addLoan ({ frames := 0, cells := 0, slots := 0, locals := 0 }) (va_Pc [.ref (a 0), .int (x1), .int (x2), .int (x3)] (fun U => U.heap.size = sz ∧ va_P (dC, dI) vwCl (wT cs a T) U.heap ∧ GE dC dI cs U ∧ va_D (fun _ => True) (wT cs a T))) (va_Qi (fun r (u : Tw) => r = res.1 ∧ u = res.2) (fun u t => va_P (dC, dI) vwCl ((fun u : Tw => (wT cs a u)) u) t.heap ∧ va_D (va_A (wT cs a T) sz) ((fun u : Tw => (wT cs a u)) u)) (va_A (wT cs a T) sz)) 0 0 (va_A (wT cs a T) sz) := by
  refine Met.ofW (cc := cX5_addLoan) (maxL := 4) (ret := (some .int)) (by decide) rfl ?_
  intro p e s m args below meth c s₁ B hml hv
  obtain ⟨rfl, hsz, hP, G, hD0⟩ := hv
  have hts := atoms_spec (ws := wsX5_addLoan) B.pre
  have hown : s.vm.findClass RX5 = some m.cls := findClass_of_methodNamed B.named
  have hlocks := B.notSynchronized
  have hx := B.exec
  have hb := B.bytes
  have hr := B.returns
  have C : CallFix p m c cX5_addLoan 4 s _ wsX5_addLoan RX5 := ⟨hx, hb, hml, hown, hts⟩
  obtain ⟨hK, hN⟩ := id G
  subst hsz
  have hD := hD0.self (sz := s.heap.size)
  generalize hAe : va_A (wT cs a T) s.heap.size = A at hD ⊢
  have hA : ∀ q : Nat, s.heap.size ≤ q → A q := fun q h => by rw [← hAe]; exact Or.inr h
  have hS : va_S A s.heap s.heap [] := va_S.rf
  have hR : RTi p l e ({ frames := 0, cells := 0, slots := 0, locals := 0 }) s m ([.ref (a 0), .int (x1), .int (x2), .int (x3)] : List Value).toArray below meth c cX5_addLoan (MQ below (va_Qi (fun r (u : Tw) => r = res.1 ∧ u = res.2) (fun u t => va_P (dC, dI) vwCl ((fun u : Tw => (wT cs a u)) u) t.heap ∧ va_D A ((fun u : Tw => (wT cs a u)) u)) A) ([.ref (a 0), .int (x1), .int (x2), .int (x3)] : List Value).toArray s 0 0 A) (dC, dI) A (fun u : Tw => (wT cs a u)) res := fun H locs pc ls r u dd h hP hD hS => W.iret hx hb hr (fun t ht hW => ⟨⟨r, u, rfl, by cases h; exact ⟨rfl, rfl⟩, by rw [ht]; exact hP, hD⟩, hS.F ht⟩) hS.2.2 dd
  have hl := lv_entry ([.ref (a 0), .int (x1), .int (x2), .int (x3)]) (n := 4) (Nat.le_of_ble_eq_true rfl)
  rw [lg_entry_eq]
  generalize (lg_sl ([.ref (a 0), .int (x1), .int (x2), .int (x3)]) ++ List.replicate (4 - (lg_sl ([.ref (a 0), .int (x1), .int (x2), .int (x3)])).length) Slot.unset).toArray = ls at hl ⊢
  have hl : lv_has ls 4 [(0, .ref (a 0)), (1, .int (x1)), (2, .int (x2)), (3, .int (x3))] := hl
  unfold f_X5_addLoan at hf
  refine lv_aload_n hx hb dX5_addLoan_0 rfl (lv_at hl 0 rfl) ?_
  refine va_get (D := (dC, dI)) (ci := 5) (v := .int ((T.1 5))) (C := RX5) (T := TX5) (N := 17) hx hb hts in_X5_addLoan_X5 hown hK hP 0 rfl rfl 5 (by decide) (hts (.fieldLink RX5 58 "BackLoans$Town" "loans" "I") (by decide +kernel)) (fun _ h9 => h9) rfl dX5_addLoan_1 ?_
  refine lv_bipush (v := 8) hx hb dX5_addLoan_4 (by decide) ?_
  refine lv_icmp_lt (tgt := 12) hx hb dX5_addLoan_6 (by decide) (fun c1 => ?_) (fun c1 => ?_)
  · replace hf := it_t c1 hf
    refine lv_aload_n hx hb dX5_addLoan_12 rfl (lv_at hl 0 rfl) ?_
    refine va_get (D := (dC, dI)) (ci := 5) (v := .ref (a 4)) (C := RX5) (T := TX5) (N := 17) hx hb hts in_X5_addLoan_X5 hown hK hP 0 rfl rfl 10 (by decide) (hts (.fieldLink RX5 21 "BackLoans$Town" "owner" "[I") (by decide +kernel)) (fun _ h9 => h9) rfl dX5_addLoan_13 ?_
    refine lv_aload_n hx hb dX5_addLoan_16 rfl (lv_at hl 0 rfl) ?_
    refine va_get (D := (dC, dI)) (ci := 5) (v := .int ((T.1 5))) (C := RX5) (T := TX5) (N := 17) hx hb hts in_X5_addLoan_X5 hown hK hP 0 rfl rfl 5 (by decide) (hts (.fieldLink RX5 58 "BackLoans$Town" "loans" "I") (by decide +kernel)) (fun _ h9 => h9) rfl dX5_addLoan_17 ?_
    refine lv_iload_n hx hb dX5_addLoan_20 rfl (lv_at hl 1 rfl) ?_
    obtain ⟨hi2, hf⟩ := gi_e hf
    refine va_iast hx hb hK hP hD hS 4 0 rfl rfl hi2 dX5_addLoan_21 (fun H locs hP hD hS => ?_)
    obtain ⟨T_21, hP, hD, hf⟩ := st_nm (ws := fun T_21 : Tw => (wT cs a T_21)) ((T.1, va_up T.2 3 (upd (T.2 3) ((T.1 5)).toNatClampNeg (x1)))) hP hD hf
    refine lv_aload_n hx hb dX5_addLoan_22 rfl (lv_at hl 0 rfl) ?_
    refine va_get (D := (dC, dI)) (ci := 5) (v := .ref (a 5)) (C := RX5) (T := TX5) (N := 17) hx hb hts in_X5_addLoan_X5 hown hK hP 0 rfl rfl 11 (by decide) (hts (.fieldLink RX5 24 "BackLoans$Town" "pence" "[I") (by decide +kernel)) (fun _ h9 => h9) rfl dX5_addLoan_23 ?_
    refine lv_aload_n hx hb dX5_addLoan_26 rfl (lv_at hl 0 rfl) ?_
    refine va_get (D := (dC, dI)) (ci := 5) (v := .int ((T_21.1 5))) (C := RX5) (T := TX5) (N := 17) hx hb hts in_X5_addLoan_X5 hown hK hP 0 rfl rfl 5 (by decide) (hts (.fieldLink RX5 58 "BackLoans$Town" "loans" "I") (by decide +kernel)) (fun _ h9 => h9) rfl dX5_addLoan_27 ?_
    refine lv_iload_n hx hb dX5_addLoan_30 rfl (lv_at hl 2 rfl) ?_
    obtain ⟨hi3, hf⟩ := gi_e hf
    refine va_iast hx hb hK hP hD hS 5 0 rfl rfl hi3 dX5_addLoan_31 (fun H locs hP hD hS => ?_)
    obtain ⟨T_31, hP, hD, hf⟩ := st_nm (ws := fun T_31 : Tw => (wT cs a T_31)) ((T_21.1, va_up T_21.2 4 (upd (T_21.2 4) ((T_21.1 5)).toNatClampNeg (x2)))) hP hD hf
    refine lv_aload_n hx hb dX5_addLoan_32 rfl (lv_at hl 0 rfl) ?_
    refine va_get (D := (dC, dI)) (ci := 5) (v := .ref (a 6)) (C := RX5) (T := TX5) (N := 17) hx hb hts in_X5_addLoan_X5 hown hK hP 0 rfl rfl 12 (by decide) (hts (.fieldLink RX5 27 "BackLoans$Town" "times" "[I") (by decide +kernel)) (fun _ h9 => h9) rfl dX5_addLoan_33 ?_
    refine lv_aload_n hx hb dX5_addLoan_36 rfl (lv_at hl 0 rfl) ?_
    refine va_get (D := (dC, dI)) (ci := 5) (v := .int ((T_31.1 5))) (C := RX5) (T := TX5) (N := 17) hx hb hts in_X5_addLoan_X5 hown hK hP 0 rfl rfl 5 (by decide) (hts (.fieldLink RX5 58 "BackLoans$Town" "loans" "I") (by decide +kernel)) (fun _ h9 => h9) rfl dX5_addLoan_37 ?_
    refine lv_iload_n hx hb dX5_addLoan_40 rfl (lv_at hl 3 rfl) ?_
    obtain ⟨hi4, hf⟩ := gi_e hf
    refine va_iast hx hb hK hP hD hS 6 0 rfl rfl hi4 dX5_addLoan_41 (fun H locs hP hD hS => ?_)
    obtain ⟨T_41, hP, hD, hf⟩ := st_nm (ws := fun T_41 : Tw => (wT cs a T_41)) ((T_31.1, va_up T_31.2 5 (upd (T_31.2 5) ((T_31.1 5)).toNatClampNeg (x3)))) hP hD hf
    refine lv_aload_n hx hb dX5_addLoan_42 rfl (lv_at hl 0 rfl) ?_
    refine va_get (D := (dC, dI)) (ci := 5) (v := .ref (a 7)) (C := RX5) (T := TX5) (N := 17) hx hb hts in_X5_addLoan_X5 hown hK hP 0 rfl rfl 13 (by decide) (hts (.fieldLink RX5 30 "BackLoans$Town" "state" "[I") (by decide +kernel)) (fun _ h9 => h9) rfl dX5_addLoan_43 ?_
    refine lv_aload_n hx hb dX5_addLoan_46 rfl (lv_at hl 0 rfl) ?_
    refine va_get (D := (dC, dI)) (ci := 5) (v := .int ((T_41.1 5))) (C := RX5) (T := TX5) (N := 17) hx hb hts in_X5_addLoan_X5 hown hK hP 0 rfl rfl 5 (by decide) (hts (.fieldLink RX5 58 "BackLoans$Town" "loans" "I") (by decide +kernel)) (fun _ h9 => h9) rfl dX5_addLoan_47 ?_
    refine lv_iconst (v := 0) hx hb dX5_addLoan_50 (by decide) ?_
    obtain ⟨hi5, hf⟩ := gi_e hf
    refine va_iast hx hb hK hP hD hS 7 0 rfl rfl hi5 dX5_addLoan_51 (fun H locs hP hD hS => ?_)
    obtain ⟨T_51, hP, hD, hf⟩ := st_nm (ws := fun T_51 : Tw => (wT cs a T_51)) ((T_41.1, va_up T_41.2 6 (upd (T_41.2 6) ((T_41.1 5)).toNatClampNeg ((0 : Int32))))) hP hD hf
    refine lv_aload_n hx hb dX5_addLoan_52 rfl (lv_at hl 0 rfl) ?_
    refine va_get (D := (dC, dI)) (ci := 5) (v := .ref (a 8)) (C := RX5) (T := TX5) (N := 17) hx hb hts in_X5_addLoan_X5 hown hK hP 0 rfl rfl 14 (by decide) (hts (.fieldLink RX5 33 "BackLoans$Town" "given" "[I") (by decide +kernel)) (fun _ h9 => h9) rfl dX5_addLoan_53 ?_
    refine lv_aload_n hx hb dX5_addLoan_56 rfl (lv_at hl 0 rfl) ?_
    refine va_get (D := (dC, dI)) (ci := 5) (v := .int ((T_51.1 5))) (C := RX5) (T := TX5) (N := 17) hx hb hts in_X5_addLoan_X5 hown hK hP 0 rfl rfl 5 (by decide) (hts (.fieldLink RX5 58 "BackLoans$Town" "loans" "I") (by decide +kernel)) (fun _ h9 => h9) rfl dX5_addLoan_57 ?_
    refine lv_iconst (v := 0) hx hb dX5_addLoan_60 (by decide) ?_
    obtain ⟨hi6, hf⟩ := gi_e hf
    refine va_iast hx hb hK hP hD hS 8 0 rfl rfl hi6 dX5_addLoan_61 (fun H locs hP hD hS => ?_)
    obtain ⟨T_61, hP, hD, hf⟩ := st_nm (ws := fun T_61 : Tw => (wT cs a T_61)) ((T_51.1, va_up T_51.2 7 (upd (T_51.2 7) ((T_51.1 5)).toNatClampNeg ((0 : Int32))))) hP hD hf
    refine lv_aload_n hx hb dX5_addLoan_62 rfl (lv_at hl 0 rfl) ?_
    refine lv_dup hx hb dX5_addLoan_63 rfl ?_
    refine va_get (D := (dC, dI)) (ci := 5) (v := .int ((T_61.1 5))) (C := RX5) (T := TX5) (N := 17) hx hb hts in_X5_addLoan_X5 hown hK hP 0 rfl rfl 5 (by decide) (hts (.fieldLink RX5 58 "BackLoans$Town" "loans" "I") (by decide +kernel)) (fun _ h9 => h9) rfl dX5_addLoan_64 ?_
    refine lv_iconst (v := 1) hx hb dX5_addLoan_67 (by decide) ?_
    refine lv_iadd hx hb dX5_addLoan_68 ?_
    refine va_put (D := (dC, dI)) (ci := 5) (v := .int (((T_61.1 5) + (1 : Int32)))) (ty := .int) (C := RX5) (T := TX5) (N := 17) hx hb hts in_X5_addLoan_X5 tyX5 tyX5_ok nmX5 hown hK hP hD hS 0 rfl rfl 5 (by decide) (hts (.fieldLink RX5 58 "BackLoans$Town" "loans" "I") (by decide +kernel)) (fun _ h9 => h9) rfl (by decide +kernel) rfl rfl (Nat.le_of_ble_eq_true rfl) dX5_addLoan_69 (fun H locs hP hD hS => ?_)
    obtain ⟨T_69, hP, hD, hf⟩ := st_nm (ws := fun T_69 : Tw => (wT cs a T_69)) ((upd T_61.1 5 (((T_61.1 5) + (1 : Int32))), T_61.2)) hP hD hf
    refine lv_aload_n hx hb dX5_addLoan_72 rfl (lv_at hl 0 rfl) ?_
    refine va_get (D := (dC, dI)) (ci := 5) (v := .int ((T_69.1 5))) (C := RX5) (T := TX5) (N := 17) hx hb hts in_X5_addLoan_X5 hown hK hP 0 rfl rfl 5 (by decide) (hts (.fieldLink RX5 58 "BackLoans$Town" "loans" "I") (by decide +kernel)) (fun _ h9 => h9) rfl dX5_addLoan_73 ?_
    refine lv_iconst (v := 1) hx hb dX5_addLoan_76 (by decide) ?_
    refine lv_isub hx hb dX5_addLoan_77 ?_
    exact hR _ _ _ _ _ _ dX5_addLoan_78 hf hP hD hS
  · replace hf := it_f c1 hf
    refine lv_bipush (v := -4) hx hb dX5_addLoan_9 (by decide) ?_
    exact hR _ _ _ _ _ _ dX5_addLoan_11 hf hP hD hS

theorem in_X5_addOffer_X5 : ∀ w ∈ wsX50, w ∈ wsX5_addOffer := by decide +kernel
def f_X5_addOffer (x1 : Int32) (x2 : Int32) (T : Tw) : Option (Int32 × Tw) :=
  if (T.1 6) < (8 : Int32) then (
    gi ((T.1 6)) 8 <|
    lett ((T.1, va_up T.2 8 (upd (T.2 8) ((T.1 6)).toNatClampNeg (x1)))) fun T_21 =>
    gi ((T_21.1 6)) 8 <|
    lett ((T_21.1, va_up T_21.2 9 (upd (T_21.2 9) ((T_21.1 6)).toNatClampNeg (x2)))) fun T_31 =>
    lett ((upd T_31.1 6 (((T_31.1 6) + (1 : Int32))), T_31.2)) fun T_39 =>
    some (((T_39.1 6) - (1 : Int32)), T_39)
  ) else (
    some ((-4 : Int32), T)
  )
set_option maxHeartbeats 4000000 in
set_option maxRecDepth 100000 in
theorem c_X5_addOffer (l : Launch) (dC : Nat → ClassId) (dI : Nat → Nat → Nat) (cs : Nat → ClassId) (a : Nat → Nat) (sz : Nat) (T : Tw) (x1 : Int32) (x2 : Int32) (res : Int32 × Tw) (hf : f_X5_addOffer x1 x2 T = some res) : Met l yX5_addOffer wsX5_addOffer ({ frames := 0, cells := 0, slots := 0, locals := 0 }) (va_Pc [.ref (a 0), .int (x1), .int (x2)] (fun U => U.heap.size = sz ∧ va_P (dC, dI) vwCl (wT cs a T) U.heap ∧ GE dC dI cs U ∧ va_D (fun _ => True) (wT cs a T))) (va_Qi (fun r (u : Tw) => r = res.1 ∧ u = res.2) (fun u t => va_P (dC, dI) vwCl ((fun u : Tw => (wT cs a u)) u) t.heap ∧ va_D (va_A (wT cs a T) sz) ((fun u : Tw => (wT cs a u)) u)) (va_A (wT cs a T) sz)) 0 0 (va_A (wT cs a T) sz) := by
  refine Met.ofW (cc := cX5_addOffer) (maxL := 3) (ret := (some .int)) (by decide) rfl ?_
  intro p e s m args below meth c s₁ B hml hv
  obtain ⟨rfl, hsz, hP, G, hD0⟩ := hv
  have hts := atoms_spec (ws := wsX5_addOffer) B.pre
  have hown : s.vm.findClass RX5 = some m.cls := findClass_of_methodNamed B.named
  have hlocks := B.notSynchronized
  have hx := B.exec
  have hb := B.bytes
  have hr := B.returns
  have C : CallFix p m c cX5_addOffer 3 s _ wsX5_addOffer RX5 := ⟨hx, hb, hml, hown, hts⟩
  obtain ⟨hK, hN⟩ := id G
  subst hsz
  have hD := hD0.self (sz := s.heap.size)
  generalize hAe : va_A (wT cs a T) s.heap.size = A at hD ⊢
  have hA : ∀ q : Nat, s.heap.size ≤ q → A q := fun q h => by rw [← hAe]; exact Or.inr h
  have hS : va_S A s.heap s.heap [] := va_S.rf
  have hR : RTi p l e ({ frames := 0, cells := 0, slots := 0, locals := 0 }) s m ([.ref (a 0), .int (x1), .int (x2)] : List Value).toArray below meth c cX5_addOffer (MQ below (va_Qi (fun r (u : Tw) => r = res.1 ∧ u = res.2) (fun u t => va_P (dC, dI) vwCl ((fun u : Tw => (wT cs a u)) u) t.heap ∧ va_D A ((fun u : Tw => (wT cs a u)) u)) A) ([.ref (a 0), .int (x1), .int (x2)] : List Value).toArray s 0 0 A) (dC, dI) A (fun u : Tw => (wT cs a u)) res := fun H locs pc ls r u dd h hP hD hS => W.iret hx hb hr (fun t ht hW => ⟨⟨r, u, rfl, by cases h; exact ⟨rfl, rfl⟩, by rw [ht]; exact hP, hD⟩, hS.F ht⟩) hS.2.2 dd
  have hl := lv_entry ([.ref (a 0), .int (x1), .int (x2)]) (n := 3) (Nat.le_of_ble_eq_true rfl)
  rw [lg_entry_eq]
  generalize (lg_sl ([.ref (a 0), .int (x1), .int (x2)]) ++ List.replicate (3 - (lg_sl ([.ref (a 0), .int (x1), .int (x2)])).length) Slot.unset).toArray = ls at hl ⊢
  have hl : lv_has ls 3 [(0, .ref (a 0)), (1, .int (x1)), (2, .int (x2))] := hl
  unfold f_X5_addOffer at hf
  refine lv_aload_n hx hb dX5_addOffer_0 rfl (lv_at hl 0 rfl) ?_
  refine va_get (D := (dC, dI)) (ci := 5) (v := .int ((T.1 6))) (C := RX5) (T := TX5) (N := 17) hx hb hts in_X5_addOffer_X5 hown hK hP 0 rfl rfl 6 (by decide) (hts (.fieldLink RX5 61 "BackLoans$Town" "offers" "I") (by decide +kernel)) (fun _ h9 => h9) rfl dX5_addOffer_1 ?_
  refine lv_bipush (v := 8) hx hb dX5_addOffer_4 (by decide) ?_
  refine lv_icmp_lt (tgt := 12) hx hb dX5_addOffer_6 (by decide) (fun c1 => ?_) (fun c1 => ?_)
  · replace hf := it_t c1 hf
    refine lv_aload_n hx hb dX5_addOffer_12 rfl (lv_at hl 0 rfl) ?_
    refine va_get (D := (dC, dI)) (ci := 5) (v := .ref (a 9)) (C := RX5) (T := TX5) (N := 17) hx hb hts in_X5_addOffer_X5 hown hK hP 0 rfl rfl 15 (by decide) (hts (.fieldLink RX5 36 "BackLoans$Town" "offerPence" "[I") (by decide +kernel)) (fun _ h9 => h9) rfl dX5_addOffer_13 ?_
    refine lv_aload_n hx hb dX5_addOffer_16 rfl (lv_at hl 0 rfl) ?_
    refine va_get (D := (dC, dI)) (ci := 5) (v := .int ((T.1 6))) (C := RX5) (T := TX5) (N := 17) hx hb hts in_X5_addOffer_X5 hown hK hP 0 rfl rfl 6 (by decide) (hts (.fieldLink RX5 61 "BackLoans$Town" "offers" "I") (by decide +kernel)) (fun _ h9 => h9) rfl dX5_addOffer_17 ?_
    refine lv_iload_n hx hb dX5_addOffer_20 rfl (lv_at hl 1 rfl) ?_
    obtain ⟨hi2, hf⟩ := gi_e hf
    refine va_iast hx hb hK hP hD hS 9 0 rfl rfl hi2 dX5_addOffer_21 (fun H locs hP hD hS => ?_)
    obtain ⟨T_21, hP, hD, hf⟩ := st_nm (ws := fun T_21 : Tw => (wT cs a T_21)) ((T.1, va_up T.2 8 (upd (T.2 8) ((T.1 6)).toNatClampNeg (x1)))) hP hD hf
    refine lv_aload_n hx hb dX5_addOffer_22 rfl (lv_at hl 0 rfl) ?_
    refine va_get (D := (dC, dI)) (ci := 5) (v := .ref (a 10)) (C := RX5) (T := TX5) (N := 17) hx hb hts in_X5_addOffer_X5 hown hK hP 0 rfl rfl 16 (by decide) (hts (.fieldLink RX5 39 "BackLoans$Town" "offerTimes" "[I") (by decide +kernel)) (fun _ h9 => h9) rfl dX5_addOffer_23 ?_
    refine lv_aload_n hx hb dX5_addOffer_26 rfl (lv_at hl 0 rfl) ?_
    refine va_get (D := (dC, dI)) (ci := 5) (v := .int ((T_21.1 6))) (C := RX5) (T := TX5) (N := 17) hx hb hts in_X5_addOffer_X5 hown hK hP 0 rfl rfl 6 (by decide) (hts (.fieldLink RX5 61 "BackLoans$Town" "offers" "I") (by decide +kernel)) (fun _ h9 => h9) rfl dX5_addOffer_27 ?_
    refine lv_iload_n hx hb dX5_addOffer_30 rfl (lv_at hl 2 rfl) ?_
    obtain ⟨hi3, hf⟩ := gi_e hf
    refine va_iast hx hb hK hP hD hS 10 0 rfl rfl hi3 dX5_addOffer_31 (fun H locs hP hD hS => ?_)
    obtain ⟨T_31, hP, hD, hf⟩ := st_nm (ws := fun T_31 : Tw => (wT cs a T_31)) ((T_21.1, va_up T_21.2 9 (upd (T_21.2 9) ((T_21.1 6)).toNatClampNeg (x2)))) hP hD hf
    refine lv_aload_n hx hb dX5_addOffer_32 rfl (lv_at hl 0 rfl) ?_
    refine lv_dup hx hb dX5_addOffer_33 rfl ?_
    refine va_get (D := (dC, dI)) (ci := 5) (v := .int ((T_31.1 6))) (C := RX5) (T := TX5) (N := 17) hx hb hts in_X5_addOffer_X5 hown hK hP 0 rfl rfl 6 (by decide) (hts (.fieldLink RX5 61 "BackLoans$Town" "offers" "I") (by decide +kernel)) (fun _ h9 => h9) rfl dX5_addOffer_34 ?_
    refine lv_iconst (v := 1) hx hb dX5_addOffer_37 (by decide) ?_
    refine lv_iadd hx hb dX5_addOffer_38 ?_
    refine va_put (D := (dC, dI)) (ci := 5) (v := .int (((T_31.1 6) + (1 : Int32)))) (ty := .int) (C := RX5) (T := TX5) (N := 17) hx hb hts in_X5_addOffer_X5 tyX5 tyX5_ok nmX5 hown hK hP hD hS 0 rfl rfl 6 (by decide) (hts (.fieldLink RX5 61 "BackLoans$Town" "offers" "I") (by decide +kernel)) (fun _ h9 => h9) rfl (by decide +kernel) rfl rfl (Nat.le_of_ble_eq_true rfl) dX5_addOffer_39 (fun H locs hP hD hS => ?_)
    obtain ⟨T_39, hP, hD, hf⟩ := st_nm (ws := fun T_39 : Tw => (wT cs a T_39)) ((upd T_31.1 6 (((T_31.1 6) + (1 : Int32))), T_31.2)) hP hD hf
    refine lv_aload_n hx hb dX5_addOffer_42 rfl (lv_at hl 0 rfl) ?_
    refine va_get (D := (dC, dI)) (ci := 5) (v := .int ((T_39.1 6))) (C := RX5) (T := TX5) (N := 17) hx hb hts in_X5_addOffer_X5 hown hK hP 0 rfl rfl 6 (by decide) (hts (.fieldLink RX5 61 "BackLoans$Town" "offers" "I") (by decide +kernel)) (fun _ h9 => h9) rfl dX5_addOffer_43 ?_
    refine lv_iconst (v := 1) hx hb dX5_addOffer_46 (by decide) ?_
    refine lv_isub hx hb dX5_addOffer_47 ?_
    exact hR _ _ _ _ _ _ dX5_addOffer_48 hf hP hD hS
  · replace hf := it_f c1 hf
    refine lv_bipush (v := -4) hx hb dX5_addOffer_9 (by decide) ?_
    exact hR _ _ _ _ _ _ dX5_addOffer_11 hf hP hD hS

theorem in_X5_alike_X5 : ∀ w ∈ wsX50, w ∈ wsX5_alike := by decide +kernel
def f_X5_alike (x1 : Int32) (x2 : Int32) (T : Tw) : Option Int32 :=
  gi (x1) 8 <|
  gi (x2) 8 <|
  if ((T.2 4) (x1).toNatClampNeg) = ((T.2 4) (x2).toNatClampNeg) then (
    gi (x1) 8 <|
    gi (x2) 8 <|
    if ((T.2 5) (x1).toNatClampNeg) = ((T.2 5) (x2).toNatClampNeg) then (
      some (1 : Int32)
    ) else (
      some (0 : Int32)
    )
  ) else (
    some (0 : Int32)
  )
set_option maxHeartbeats 4000000 in
set_option maxRecDepth 100000 in
theorem c_X5_alike (l : Launch) (dC : Nat → ClassId) (dI : Nat → Nat → Nat) (cs : Nat → ClassId) (a : Nat → Nat) (T : Tw) (x1 : Int32) (x2 : Int32) (res : Int32) (hf : f_X5_alike x1 x2 T = some res) : Met l yX5_alike wsX5_alike ({ frames := 0, cells := 0, slots := 0, locals := 0 }) (va_Pc [.ref (a 0), .int (x1), .int (x2)] (fun U => va_P (dC, dI) vwCl (wT cs a T) U.heap ∧ GE dC dI cs U)) (vp_Si (fun r => r = res ∧ narrow .boolean (.int r) = .int r)) 0 0 (fun _ => False) := by
  refine Met.ofW (cc := cX5_alike) (maxL := 3) (ret := (some .boolean)) (by decide) rfl ?_
  intro p e s m args below meth c s₁ B hml hv
  obtain ⟨rfl, hP, G⟩ := hv
  have hts := atoms_spec (ws := wsX5_alike) B.pre
  have hown : s.vm.findClass RX5 = some m.cls := findClass_of_methodNamed B.named
  have hlocks := B.notSynchronized
  have hx := B.exec
  have hb := B.bytes
  have hr := B.returns
  have C : CallFix p m c cX5_alike 3 s _ wsX5_alike RX5 := ⟨hx, hb, hml, hown, hts⟩
  obtain ⟨hK, hN⟩ := id G
  have hR : RPz p l e ({ frames := 0, cells := 0, slots := 0, locals := 0 }) s m ([.ref (a 0), .int (x1), .int (x2)] : List Value).toArray below meth c cX5_alike (MQ below (vp_Si (fun r => r = res ∧ narrow .boolean (.int r) = .int r)) ([.ref (a 0), .int (x1), .int (x2)] : List Value).toArray s 0 0 (fun _ => False)) res := fun pc ls r dd hn h => W.zret hx hb hr hn (fun t ht hW => ⟨r, rfl, ⟨Option.some.inj h, hn⟩, ht⟩) (fun q hq => by cases hq) dd
  have hl := lv_entry ([.ref (a 0), .int (x1), .int (x2)]) (n := 3) (Nat.le_of_ble_eq_true rfl)
  rw [lg_entry_eq]
  generalize (lg_sl ([.ref (a 0), .int (x1), .int (x2)]) ++ List.replicate (3 - (lg_sl ([.ref (a 0), .int (x1), .int (x2)])).length) Slot.unset).toArray = ls at hl ⊢
  have hl : lv_has ls 3 [(0, .ref (a 0)), (1, .int (x1)), (2, .int (x2))] := hl
  unfold f_X5_alike at hf
  refine lv_aload_n hx hb dX5_alike_0 rfl (lv_at hl 0 rfl) ?_
  refine va_get (D := (dC, dI)) (ci := 5) (v := .ref (a 5)) (C := RX5) (T := TX5) (N := 17) hx hb hts in_X5_alike_X5 hown hK hP 0 rfl rfl 11 (by decide) (hts (.fieldLink RX5 24 "BackLoans$Town" "pence" "[I") (by decide +kernel)) (fun _ h9 => h9) rfl dX5_alike_1 ?_
  refine lv_iload_n hx hb dX5_alike_4 rfl (lv_at hl 1 rfl) ?_
  obtain ⟨hi1, hf⟩ := gi_e hf
  refine va_iald hx hb hK hP 5 0 rfl rfl hi1 dX5_alike_5 ?_
  refine lv_aload_n hx hb dX5_alike_6 rfl (lv_at hl 0 rfl) ?_
  refine va_get (D := (dC, dI)) (ci := 5) (v := .ref (a 5)) (C := RX5) (T := TX5) (N := 17) hx hb hts in_X5_alike_X5 hown hK hP 0 rfl rfl 11 (by decide) (hts (.fieldLink RX5 24 "BackLoans$Town" "pence" "[I") (by decide +kernel)) (fun _ h9 => h9) rfl dX5_alike_7 ?_
  refine lv_iload_n hx hb dX5_alike_10 rfl (lv_at hl 2 rfl) ?_
  obtain ⟨hi2, hf⟩ := gi_e hf
  refine va_iald hx hb hK hP 5 0 rfl rfl hi2 dX5_alike_11 ?_
  refine lv_icmp_ne (tgt := 34) hx hb dX5_alike_12 (by decide) (fun c3 => ?_) (fun c3 => ?_)
  · replace hf := it_f c3 hf
    refine lv_iconst (v := 0) hx hb dX5_alike_34 (by decide) ?_
    exact hR _ _ _ dX5_alike_35 (by decide) hf
  · replace hf := it_t c3 hf
    refine lv_aload_n hx hb dX5_alike_15 rfl (lv_at hl 0 rfl) ?_
    refine va_get (D := (dC, dI)) (ci := 5) (v := .ref (a 6)) (C := RX5) (T := TX5) (N := 17) hx hb hts in_X5_alike_X5 hown hK hP 0 rfl rfl 12 (by decide) (hts (.fieldLink RX5 27 "BackLoans$Town" "times" "[I") (by decide +kernel)) (fun _ h9 => h9) rfl dX5_alike_16 ?_
    refine lv_iload_n hx hb dX5_alike_19 rfl (lv_at hl 1 rfl) ?_
    obtain ⟨hi4, hf⟩ := gi_e hf
    refine va_iald hx hb hK hP 6 0 rfl rfl hi4 dX5_alike_20 ?_
    refine lv_aload_n hx hb dX5_alike_21 rfl (lv_at hl 0 rfl) ?_
    refine va_get (D := (dC, dI)) (ci := 5) (v := .ref (a 6)) (C := RX5) (T := TX5) (N := 17) hx hb hts in_X5_alike_X5 hown hK hP 0 rfl rfl 12 (by decide) (hts (.fieldLink RX5 27 "BackLoans$Town" "times" "[I") (by decide +kernel)) (fun _ h9 => h9) rfl dX5_alike_22 ?_
    refine lv_iload_n hx hb dX5_alike_25 rfl (lv_at hl 2 rfl) ?_
    obtain ⟨hi5, hf⟩ := gi_e hf
    refine va_iald hx hb hK hP 6 0 rfl rfl hi5 dX5_alike_26 ?_
    refine lv_icmp_ne (tgt := 34) hx hb dX5_alike_27 (by decide) (fun c6 => ?_) (fun c6 => ?_)
    · replace hf := it_f c6 hf
      refine lv_iconst (v := 0) hx hb dX5_alike_34 (by decide) ?_
      exact hR _ _ _ dX5_alike_35 (by decide) hf
    · replace hf := it_t c6 hf
      refine lv_iconst (v := 1) hx hb dX5_alike_30 (by decide) ?_
      refine lv_goto (tgt := 35) hx hb dX5_alike_31 (by decide) ?_
      exact hR _ _ _ dX5_alike_35 (by decide) hf

theorem in_X5_canBeJoined_X5 : ∀ w ∈ wsX50, w ∈ wsX5_canBeJoined := by decide +kernel
def f_X5_canBeJoined (x1 : Int32) (x2 : Int32) (T : Tw) : Option Int32 :=
  gi (x1) 8 <|
  if ((T.2 6) (x1).toNatClampNeg) = (2 : Int32) then (
    gi (x2) 8 <|
    if ((T.2 6) (x2).toNatClampNeg) = (2 : Int32) then (
      bn (f_X5_alike x1 x2 T) fun r23 =>
      if r23 = 0 then (
        some (0 : Int32)
      ) else (
        some (1 : Int32)
      )
    ) else (
      some (0 : Int32)
    )
  ) else (
    some (0 : Int32)
  )
set_option maxHeartbeats 4000000 in
set_option maxRecDepth 100000 in
theorem c_X5_canBeJoined (l : Launch) (dC : Nat → ClassId) (dI : Nat → Nat → Nat) (cs : Nat → ClassId) (a : Nat → Nat) (T : Tw) (x1 : Int32) (x2 : Int32) (res : Int32) (hf : f_X5_canBeJoined x1 x2 T = some res) : Met l yX5_canBeJoined wsX5_canBeJoined ({ frames := 1, cells := 0, slots := 0, locals := 22 }) (va_Pc [.ref (a 0), .int (x1), .int (x2)] (fun U => va_P (dC, dI) vwCl (wT cs a T) U.heap ∧ GE dC dI cs U)) (vp_Si (fun r => r = res ∧ narrow .boolean (.int r) = .int r)) 0 0 (fun _ => False) := by
  refine Met.ofW (cc := cX5_canBeJoined) (maxL := 3) (ret := (some .boolean)) (by decide) rfl ?_
  intro p e s m args below meth c s₁ B hml hv
  obtain ⟨rfl, hP, G⟩ := hv
  have hts := atoms_spec (ws := wsX5_canBeJoined) B.pre
  have hown : s.vm.findClass RX5 = some m.cls := findClass_of_methodNamed B.named
  have hlocks := B.notSynchronized
  have hx := B.exec
  have hb := B.bytes
  have hr := B.returns
  have C : CallFix p m c cX5_canBeJoined 3 s _ wsX5_canBeJoined RX5 := ⟨hx, hb, hml, hown, hts⟩
  obtain ⟨hK, hN⟩ := id G
  have hR : RPz p l e ({ frames := 1, cells := 0, slots := 0, locals := 22 }) s m ([.ref (a 0), .int (x1), .int (x2)] : List Value).toArray below meth c cX5_canBeJoined (MQ below (vp_Si (fun r => r = res ∧ narrow .boolean (.int r) = .int r)) ([.ref (a 0), .int (x1), .int (x2)] : List Value).toArray s 0 0 (fun _ => False)) res := fun pc ls r dd hn h => W.zret hx hb hr hn (fun t ht hW => ⟨r, rfl, ⟨Option.some.inj h, hn⟩, ht⟩) (fun q hq => by cases hq) dd
  have hl := lv_entry ([.ref (a 0), .int (x1), .int (x2)]) (n := 3) (Nat.le_of_ble_eq_true rfl)
  rw [lg_entry_eq]
  generalize (lg_sl ([.ref (a 0), .int (x1), .int (x2)]) ++ List.replicate (3 - (lg_sl ([.ref (a 0), .int (x1), .int (x2)])).length) Slot.unset).toArray = ls at hl ⊢
  have hl : lv_has ls 3 [(0, .ref (a 0)), (1, .int (x1)), (2, .int (x2))] := hl
  unfold f_X5_canBeJoined at hf
  refine lv_aload_n hx hb dX5_canBeJoined_0 rfl (lv_at hl 0 rfl) ?_
  refine va_get (D := (dC, dI)) (ci := 5) (v := .ref (a 7)) (C := RX5) (T := TX5) (N := 17) hx hb hts in_X5_canBeJoined_X5 hown hK hP 0 rfl rfl 13 (by decide) (hts (.fieldLink RX5 30 "BackLoans$Town" "state" "[I") (by decide +kernel)) (fun _ h9 => h9) rfl dX5_canBeJoined_1 ?_
  refine lv_iload_n hx hb dX5_canBeJoined_4 rfl (lv_at hl 1 rfl) ?_
  obtain ⟨hi1, hf⟩ := gi_e hf
  refine va_iald hx hb hK hP 7 0 rfl rfl hi1 dX5_canBeJoined_5 ?_
  refine lv_iconst (v := 2) hx hb dX5_canBeJoined_6 (by decide) ?_
  refine lv_icmp_ne (tgt := 33) hx hb dX5_canBeJoined_7 (by decide) (fun c2 => ?_) (fun c2 => ?_)
  · replace hf := it_f c2 hf
    refine lv_iconst (v := 0) hx hb dX5_canBeJoined_33 (by decide) ?_
    exact hR _ _ _ dX5_canBeJoined_34 (by decide) hf
  · replace hf := it_t c2 hf
    refine lv_aload_n hx hb dX5_canBeJoined_10 rfl (lv_at hl 0 rfl) ?_
    refine va_get (D := (dC, dI)) (ci := 5) (v := .ref (a 7)) (C := RX5) (T := TX5) (N := 17) hx hb hts in_X5_canBeJoined_X5 hown hK hP 0 rfl rfl 13 (by decide) (hts (.fieldLink RX5 30 "BackLoans$Town" "state" "[I") (by decide +kernel)) (fun _ h9 => h9) rfl dX5_canBeJoined_11 ?_
    refine lv_iload_n hx hb dX5_canBeJoined_14 rfl (lv_at hl 2 rfl) ?_
    obtain ⟨hi3, hf⟩ := gi_e hf
    refine va_iald hx hb hK hP 7 0 rfl rfl hi3 dX5_canBeJoined_15 ?_
    refine lv_iconst (v := 2) hx hb dX5_canBeJoined_16 (by decide) ?_
    refine lv_icmp_ne (tgt := 33) hx hb dX5_canBeJoined_17 (by decide) (fun c4 => ?_) (fun c4 => ?_)
    · replace hf := it_f c4 hf
      refine lv_iconst (v := 0) hx hb dX5_canBeJoined_33 (by decide) ?_
      exact hR _ _ _ dX5_canBeJoined_34 (by decide) hf
    · replace hf := it_t c4 hf
      refine lv_aload_n hx hb dX5_canBeJoined_20 rfl (lv_at hl 0 rfl) ?_
      refine lv_iload_n hx hb dX5_canBeJoined_21 rfl (lv_at hl 1 rfl) ?_
      refine lv_iload_n hx hb dX5_canBeJoined_22 rfl (lv_at hl 2 rfl) ?_
      obtain ⟨r23, hr23, hf⟩ := bn_e hf
      have hPc := hP.sub (ws' := (wT cs a T)) [0, 1, 2, 3, 4, 5, 6, 7, 8, 9, 10] rfl
      refine vp_callSi (W.runV (As := [.int (x1), .int (x2)]) (rest := []) C (c_X5_alike l dC dI cs a T x1 x2 r23 hr23) (cwV 2 hts gX5_canBeJoined_X5_alike rfl rfl rfl (by decide +kernel) ⟨Nat.le_of_ble_eq_true rfl, Nat.le_of_ble_eq_true rfl⟩) ⟨(fun a U g mk q => ⟨q.1, q.2.1, GE.calling q.2.2⟩), va_recv hK hPc (ci := 5) (q0 := 0) rfl rfl, (fun U hU hW => ⟨rfl, by rw [hU]; exact hPc, GE.warm hW G⟩)⟩ rfl rfl hl.1 rfl (lv_room (Nat.le_of_ble_eq_true rfl)) dX5_canBeJoined_23 ⟨Nat.le_of_ble_eq_true rfl, Nat.le_of_ble_eq_true rfl⟩) (fun qr23 hqr23 => ?_)
      obtain ⟨hqr23, hnr23⟩ := hqr23
      obtain rfl := hqr23.symm
      refine lv_if_eq (tgt := 33) hx hb dX5_canBeJoined_26 (by decide) (fun c5 => ?_) (fun c5 => ?_)
      · replace hf := it_t c5 hf
        refine lv_iconst (v := 0) hx hb dX5_canBeJoined_33 (by decide) ?_
        exact hR _ _ _ dX5_canBeJoined_34 (by decide) hf
      · replace hf := it_f c5 hf
        refine lv_iconst (v := 1) hx hb dX5_canBeJoined_29 (by decide) ?_
        refine lv_goto (tgt := 34) hx hb dX5_canBeJoined_30 (by decide) ?_
        exact hR _ _ _ dX5_canBeJoined_34 (by decide) hf

theorem in_X5_putTogether_X5 : ∀ w ∈ wsX50, w ∈ wsX5_putTogether := by decide +kernel
def f_X5_putTogether_53 (x2 : Int32) (s1 : Int32) (s2 : Int32) (T : Tw)  : Option Tw :=
  gi (s1) 8 <|
  lett ((T.1, va_up T.2 6 (upd (T.2 6) (s1).toNatClampNeg (s2)))) fun T_53 =>
  gi (x2) 8 <|
  lett ((T_53.1, va_up T_53.2 6 (upd (T_53.2 6) (x2).toNatClampNeg ((4 : Int32))))) fun T_60 =>
  some T_60
set_option maxHeartbeats 4000000 in
set_option maxRecDepth 100000 in
theorem b_X5_putTogether_53 {p : Program} {l : Launch} {e : Env} {s : State} {m : MethodId} {args : Array Value} {below : List Frame} {meth : Method} {c : Code} {Q : State → Prop} {dC : Nat → ClassId} {dI : Nat → Nat → Nat} {cs : Nat → ClassId} {A : Nat → Prop} {a : Nat → Nat} {res : Tw} (C : CallFix p m c cX5_putTogether 3 s args wsX5_putTogether RX5) (G : GE dC dI cs s) (hA : ∀ q : Nat, s.heap.size ≤ q → A q) (hR : RTv p l e ({ frames := 1, cells := 0, slots := 0, locals := 21 }) s m args below meth c cX5_putTogether Q (dC, dI) A (fun u : Tw => (wT cs a u)) res) (x2 : Int32) (s1 : Int32) (s2 : Int32) (T : Tw)   (H : Heap) (locs : List Loc) (ls : Array Slot) (hl : lv_has ls 3 [(0, .ref (a 0)), (2, .int (x2))]) (hP : va_P (dC, dI) vwCl (wT cs a T) H) (hD : va_D A (wT cs a T)) (hS : va_S A s.heap H locs) (hf : f_X5_putTogether_53 x2 s1 s2 T = some res) : W p l e ({ frames := 1, cells := 0, slots := 0, locals := 21 }) s m args below meth c H locs 0 0 Q (F0 m 53 ls [.int (s2), .int (s1), .ref (a 7)]) := by
  obtain ⟨hx, hb, hml, hown, hts⟩ := id C
  obtain ⟨hK, hN⟩ := id G
  unfold f_X5_putTogether_53 at hf
  obtain ⟨hi1, hf⟩ := gi_e hf
  refine va_iast hx hb hK hP hD hS 7 0 rfl rfl hi1 dX5_putTogether_53 (fun H locs hP hD hS => ?_)
  obtain ⟨T_53, hP, hD, hf⟩ := st_nm (ws := fun T_53 : Tw => (wT cs a T_53)) ((T.1, va_up T.2 6 (upd (T.2 6) (s1).toNatClampNeg (s2)))) hP hD hf
  refine lv_aload_n hx hb dX5_putTogether_54 rfl (lv_at hl 0 rfl) ?_
  refine va_get (D := (dC, dI)) (ci := 5) (v := .ref (a 7)) (C := RX5) (T := TX5) (N := 17) hx hb hts in_X5_putTogether_X5 hown hK hP 0 rfl rfl 13 (by decide) (hts (.fieldLink RX5 30 "BackLoans$Town" "state" "[I") (by decide +kernel)) (fun _ h9 => h9) rfl dX5_putTogether_55 ?_
  refine lv_iload_n hx hb dX5_putTogether_58 rfl (lv_at hl 1 rfl) ?_
  refine lv_iconst (v := 4) hx hb dX5_putTogether_59 (by decide) ?_
  obtain ⟨hi2, hf⟩ := gi_e hf
  refine va_iast hx hb hK hP hD hS 7 0 rfl rfl hi2 dX5_putTogether_60 (fun H locs hP hD hS => ?_)
  obtain ⟨T_60, hP, hD, hf⟩ := st_nm (ws := fun T_60 : Tw => (wT cs a T_60)) ((T_53.1, va_up T_53.2 6 (upd (T_53.2 6) (x2).toNatClampNeg ((4 : Int32))))) hP hD hf
  exact hR _ _ _ _ _ dX5_putTogether_61 hf hP hD hS
def f_X5_putTogether (x1 : Int32) (x2 : Int32) (T : Tw) : Option Tw :=
  gi (x1) 8 <|
  gi (x1) 8 <|
  gi (x2) 8 <|
  gi (x1) 8 <|
  lett ((T.1, va_up T.2 7 (upd (T.2 7) (x1).toNatClampNeg ((if (((T.2 7) (x1).toNatClampNeg) + ((T.2 7) (x2).toNatClampNeg)) < ((T.2 5) (x1).toNatClampNeg) then (((T.2 7) (x1).toNatClampNeg) + ((T.2 7) (x2).toNatClampNeg)) else ((T.2 5) (x1).toNatClampNeg)))))) fun T_27 =>
  gi (x1) 8 <|
  gi (x1) 8 <|
  if ((T_27.2 7) (x1).toNatClampNeg) = ((T_27.2 5) (x1).toNatClampNeg) then (
    f_X5_putTogether_53 x2 x1 (3 : Int32) T_27
  ) else (
    f_X5_putTogether_53 x2 x1 (2 : Int32) T_27
  )
set_option maxHeartbeats 4000000 in
set_option maxRecDepth 100000 in
theorem c_X5_putTogether (l : Launch) (dC : Nat → ClassId) (dI : Nat → Nat → Nat) (cs : Nat → ClassId) (a : Nat → Nat) (sz : Nat) (T : Tw) (x1 : Int32) (x2 : Int32) (res : Tw) (hf : f_X5_putTogether x1 x2 T = some res) : Met l yX5_putTogether wsX5_putTogether ({ frames := 1, cells := 0, slots := 0, locals := 21 }) (va_Pc [.ref (a 0), .int (x1), .int (x2)] (fun U => U.heap.size = sz ∧ va_P (dC, dI) vwCl (wT cs a T) U.heap ∧ GE dC dI cs U ∧ va_D (fun _ => True) (wT cs a T))) (va_Qv (fun u : Tw => u = res) (fun u t => va_P (dC, dI) vwCl ((fun u : Tw => (wT cs a u)) u) t.heap ∧ va_D (va_A (wT cs a T) sz) ((fun u : Tw => (wT cs a u)) u)) (va_A (wT cs a T) sz)) 0 0 (va_A (wT cs a T) sz) := by
  refine Met.ofW (cc := cX5_putTogether) (maxL := 3) (ret := none) (by decide) rfl ?_
  intro p e s m args below meth c s₁ B hml hv
  obtain ⟨rfl, hsz, hP, G, hD0⟩ := hv
  have hts := atoms_spec (ws := wsX5_putTogether) B.pre
  have hown : s.vm.findClass RX5 = some m.cls := findClass_of_methodNamed B.named
  have hlocks := B.notSynchronized
  have hx := B.exec
  have hb := B.bytes
  have hr := B.returns
  have C : CallFix p m c cX5_putTogether 3 s _ wsX5_putTogether RX5 := ⟨hx, hb, hml, hown, hts⟩
  obtain ⟨hK, hN⟩ := id G
  subst hsz
  have hD := hD0.self (sz := s.heap.size)
  generalize hAe : va_A (wT cs a T) s.heap.size = A at hD ⊢
  have hA : ∀ q : Nat, s.heap.size ≤ q → A q := fun q h => by rw [← hAe]; exact Or.inr h
  have hS : va_S A s.heap s.heap [] := va_S.rf
  have hR : RTv p l e ({ frames := 1, cells := 0, slots := 0, locals := 21 }) s m ([.ref (a 0), .int (x1), .int (x2)] : List Value).toArray below meth c cX5_putTogether (MQ below (va_Qv (fun u : Tw => u = res) (fun u t => va_P (dC, dI) vwCl ((fun u : Tw => (wT cs a u)) u) t.heap ∧ va_D A ((fun u : Tw => (wT cs a u)) u)) A) ([.ref (a 0), .int (x1), .int (x2)] : List Value).toArray s 0 0 A) (dC, dI) A (fun u : Tw => (wT cs a u)) res := fun H locs pc ls u dd h hP hD hS => W.vret hx hb hr (fun t ht hW => ⟨⟨u, rfl, by cases h; rfl, by rw [ht]; exact hP, hD⟩, hS.F ht⟩) hS.2.2 dd
  have hl := lv_entry ([.ref (a 0), .int (x1), .int (x2)]) (n := 3) (Nat.le_of_ble_eq_true rfl)
  rw [lg_entry_eq]
  generalize (lg_sl ([.ref (a 0), .int (x1), .int (x2)]) ++ List.replicate (3 - (lg_sl ([.ref (a 0), .int (x1), .int (x2)])).length) Slot.unset).toArray = ls at hl ⊢
  have hl : lv_has ls 3 [(0, .ref (a 0)), (1, .int (x1)), (2, .int (x2))] := hl
  unfold f_X5_putTogether at hf
  refine lv_aload_n hx hb dX5_putTogether_0 rfl (lv_at hl 0 rfl) ?_
  refine va_get (D := (dC, dI)) (ci := 5) (v := .ref (a 8)) (C := RX5) (T := TX5) (N := 17) hx hb hts in_X5_putTogether_X5 hown hK hP 0 rfl rfl 14 (by decide) (hts (.fieldLink RX5 33 "BackLoans$Town" "given" "[I") (by decide +kernel)) (fun _ h9 => h9) rfl dX5_putTogether_1 ?_
  refine lv_iload_n hx hb dX5_putTogether_4 rfl (lv_at hl 1 rfl) ?_
  refine lv_aload_n hx hb dX5_putTogether_5 rfl (lv_at hl 0 rfl) ?_
  refine va_get (D := (dC, dI)) (ci := 5) (v := .ref (a 6)) (C := RX5) (T := TX5) (N := 17) hx hb hts in_X5_putTogether_X5 hown hK hP 0 rfl rfl 12 (by decide) (hts (.fieldLink RX5 27 "BackLoans$Town" "times" "[I") (by decide +kernel)) (fun _ h9 => h9) rfl dX5_putTogether_6 ?_
  refine lv_iload_n hx hb dX5_putTogether_9 rfl (lv_at hl 1 rfl) ?_
  obtain ⟨hi1, hf⟩ := gi_e hf
  refine va_iald hx hb hK hP 6 0 rfl rfl hi1 dX5_putTogether_10 ?_
  refine lv_aload_n hx hb dX5_putTogether_11 rfl (lv_at hl 0 rfl) ?_
  refine va_get (D := (dC, dI)) (ci := 5) (v := .ref (a 8)) (C := RX5) (T := TX5) (N := 17) hx hb hts in_X5_putTogether_X5 hown hK hP 0 rfl rfl 14 (by decide) (hts (.fieldLink RX5 33 "BackLoans$Town" "given" "[I") (by decide +kernel)) (fun _ h9 => h9) rfl dX5_putTogether_12 ?_
  refine lv_iload_n hx hb dX5_putTogether_15 rfl (lv_at hl 1 rfl) ?_
  obtain ⟨hi2, hf⟩ := gi_e hf
  refine va_iald hx hb hK hP 8 0 rfl rfl hi2 dX5_putTogether_16 ?_
  refine lv_aload_n hx hb dX5_putTogether_17 rfl (lv_at hl 0 rfl) ?_
  refine va_get (D := (dC, dI)) (ci := 5) (v := .ref (a 8)) (C := RX5) (T := TX5) (N := 17) hx hb hts in_X5_putTogether_X5 hown hK hP 0 rfl rfl 14 (by decide) (hts (.fieldLink RX5 33 "BackLoans$Town" "given" "[I") (by decide +kernel)) (fun _ h9 => h9) rfl dX5_putTogether_18 ?_
  refine lv_iload_n hx hb dX5_putTogether_21 rfl (lv_at hl 2 rfl) ?_
  obtain ⟨hi3, hf⟩ := gi_e hf
  refine va_iald hx hb hK hP 8 0 rfl rfl hi3 dX5_putTogether_22 ?_
  refine lv_iadd hx hb dX5_putTogether_23 ?_
  refine va_mmin hx hb (hml.trans hl.1.symm) hown (hts (.methodLink RX5 95 Lib.Math.min.name) (by decide +kernel)) (hts (.static Lib.Math.min.name) (by decide +kernel)) (hts (.initialized "java/lang/Math") (by decide +kernel)) (hts (.code Lib.Math.min.name Lib.Math.min.code 2 (some .int)) (by decide +kernel)) (Nat.le_of_ble_eq_true rfl) (Nat.le_of_ble_eq_true rfl) (Nat.le_of_ble_eq_true rfl) (Nat.le_of_ble_eq_true rfl) dX5_putTogether_24 ?_
  obtain ⟨hi4, hf⟩ := gi_e hf
  refine va_iast hx hb hK hP hD hS 8 0 rfl rfl hi4 dX5_putTogether_27 (fun H locs hP hD hS => ?_)
  obtain ⟨T_27, hP, hD, hf⟩ := st_nm (ws := fun T_27 : Tw => (wT cs a T_27)) ((T.1, va_up T.2 7 (upd (T.2 7) (x1).toNatClampNeg ((if (((T.2 7) (x1).toNatClampNeg) + ((T.2 7) (x2).toNatClampNeg)) < ((T.2 5) (x1).toNatClampNeg) then (((T.2 7) (x1).toNatClampNeg) + ((T.2 7) (x2).toNatClampNeg)) else ((T.2 5) (x1).toNatClampNeg)))))) hP hD hf
  refine lv_aload_n hx hb dX5_putTogether_28 rfl (lv_at hl 0 rfl) ?_
  refine va_get (D := (dC, dI)) (ci := 5) (v := .ref (a 7)) (C := RX5) (T := TX5) (N := 17) hx hb hts in_X5_putTogether_X5 hown hK hP 0 rfl rfl 13 (by decide) (hts (.fieldLink RX5 30 "BackLoans$Town" "state" "[I") (by decide +kernel)) (fun _ h9 => h9) rfl dX5_putTogether_29 ?_
  refine lv_iload_n hx hb dX5_putTogether_32 rfl (lv_at hl 1 rfl) ?_
  refine lv_aload_n hx hb dX5_putTogether_33 rfl (lv_at hl 0 rfl) ?_
  refine va_get (D := (dC, dI)) (ci := 5) (v := .ref (a 8)) (C := RX5) (T := TX5) (N := 17) hx hb hts in_X5_putTogether_X5 hown hK hP 0 rfl rfl 14 (by decide) (hts (.fieldLink RX5 33 "BackLoans$Town" "given" "[I") (by decide +kernel)) (fun _ h9 => h9) rfl dX5_putTogether_34 ?_
  refine lv_iload_n hx hb dX5_putTogether_37 rfl (lv_at hl 1 rfl) ?_
  obtain ⟨hi5, hf⟩ := gi_e hf
  refine va_iald hx hb hK hP 8 0 rfl rfl hi5 dX5_putTogether_38 ?_
  refine lv_aload_n hx hb dX5_putTogether_39 rfl (lv_at hl 0 rfl) ?_
  refine va_get (D := (dC, dI)) (ci := 5) (v := .ref (a 6)) (C := RX5) (T := TX5) (N := 17) hx hb hts in_X5_putTogether_X5 hown hK hP 0 rfl rfl 12 (by decide) (hts (.fieldLink RX5 27 "BackLoans$Town" "times" "[I") (by decide +kernel)) (fun _ h9 => h9) rfl dX5_putTogether_40 ?_
  refine lv_iload_n hx hb dX5_putTogether_43 rfl (lv_at hl 1 rfl) ?_
  obtain ⟨hi6, hf⟩ := gi_e hf
  refine va_iald hx hb hK hP 6 0 rfl rfl hi6 dX5_putTogether_44 ?_
  refine lv_icmp_ne (tgt := 52) hx hb dX5_putTogether_45 (by decide) (fun c7 => ?_) (fun c7 => ?_)
  · replace hf := it_f c7 hf
    refine lv_iconst (v := 2) hx hb dX5_putTogether_52 (by decide) ?_
    exact b_X5_putTogether_53 C G hA hR x2 x1 (2 : Int32) T_27 _ _ _ (lv_sub hl [0, 2] rfl) hP hD hS hf
  · replace hf := it_t c7 hf
    refine lv_iconst (v := 3) hx hb dX5_putTogether_48 (by decide) ?_
    refine lv_goto (tgt := 53) hx hb dX5_putTogether_49 (by decide) ?_
    exact b_X5_putTogether_53 C G hA hR x2 x1 (3 : Int32) T_27 _ _ _ (lv_sub hl [0, 2] rfl) hP hD hS hf

theorem in_X5_holesMakeWhole_X5 : ∀ w ∈ wsX50, w ∈ wsX5_holesMakeWhole := by decide +kernel
def f_X5_holesMakeWhole_69 (x1 : Int32) (x2 : Int32) (x3 : Int32) (x4 : Int32) (T : Tw) (K7 : Int32 → Int32 → Int32 → Option Int32) : Option Int32 :=
  lett (x4 + 1) fun x4_69 =>
  K7 x2 x3 x4_69
set_option maxHeartbeats 4000000 in
set_option maxRecDepth 100000 in
theorem b_X5_holesMakeWhole_69 {p : Program} {l : Launch} {e : Env} {s : State} {m : MethodId} {args : Array Value} {below : List Frame} {meth : Method} {c : Code} {Q : State → Prop} {dC : Nat → ClassId} {dI : Nat → Nat → Nat} {cs : Nat → ClassId} {a : Nat → Nat} {res : Int32} (C : CallFix p m c cX5_holesMakeWhole 5 s args wsX5_holesMakeWhole RX5) (G : GE dC dI cs s) (hR : RPz p l e ({ frames := 1, cells := 0, slots := 0, locals := 22 }) s m args below meth c cX5_holesMakeWhole Q res) {T : Tw} (hP : va_P (dC, dI) vwCl (wT cs a T) s.heap) (x1 : Int32) (x2 : Int32) (x3 : Int32) (x4 : Int32) (_ : Tw) {K7 : Int32 → Int32 → Int32 → Option Int32} (hK7 : ∀ (x2 : Int32) (x3 : Int32) (x4 : Int32) (ls : Array Slot), lv_has ls 5 [(0, .ref (a 0)), (1, .int (x1)), (2, .int (x2)), (3, .int (x3)), (4, .int (x4))] → K7 x2 x3 x4 = some res → W p l e ({ frames := 1, cells := 0, slots := 0, locals := 22 }) s m args below meth c s.heap [] 0 0 Q (F0 m 7 ls [])) (ls : Array Slot) (hl : lv_has ls 5 [(0, .ref (a 0)), (1, .int (x1)), (2, .int (x2)), (3, .int (x3)), (4, .int (x4))]) (hf : f_X5_holesMakeWhole_69 x1 x2 x3 x4 T K7 = some res) : W p l e ({ frames := 1, cells := 0, slots := 0, locals := 22 }) s m args below meth c s.heap [] 0 0 Q (F0 m 69 ls []) := by
  obtain ⟨hx, hb, hml, hown, hts⟩ := id C
  obtain ⟨hK, hN⟩ := id G
  unfold f_X5_holesMakeWhole_69 at hf
  obtain ⟨x4_69, ex4_69⟩ : ∃ y : Int32, y = (x4 + 1) := ⟨_, rfl⟩
  replace hf := lett_s ex4_69 hf
  refine lv_iinc (v := x4_69) (lv' := [(4, .int (x4_69)), (0, .ref (a 0)), (1, .int (x1)), (2, .int (x2)), (3, .int (x3))]) hx hb dX5_holesMakeWhole_69 hl (k := 4) rfl (by rw [ex4_69]; rfl) (by decide) rfl (fun ls hl => ?_)
  refine lv_goto (tgt := 7) hx hb dX5_holesMakeWhole_72 (by decide) ?_
  exact hK7 x2 x3 x4_69 _ (lv_sub hl [1, 2, 3, 4, 0] rfl) hf
def f_X5_holesMakeWhole_36 (x1 : Int32) (x2 : Int32) (x3 : Int32) (x4 : Int32) (T : Tw) (K7 : Int32 → Int32 → Int32 → Option Int32) : Option Int32 :=
  gi (x4) 8 <|
  if ((T.2 6) (x4).toNatClampNeg) = (2 : Int32) then (
    bn (f_X5_alike x2 x4 T) fun r51 =>
    if r51 = 0 then (
      some (0 : Int32)
    ) else (
      gi (x4) 8 <|
      lett (x3 + ((T.2 7) (x4).toNatClampNeg)) fun x3_68 =>
      f_X5_holesMakeWhole_69 x1 x2 x3_68 x4 T K7
    )
  ) else (
    some (0 : Int32)
  )
set_option maxHeartbeats 4000000 in
set_option maxRecDepth 100000 in
theorem b_X5_holesMakeWhole_36 {p : Program} {l : Launch} {e : Env} {s : State} {m : MethodId} {args : Array Value} {below : List Frame} {meth : Method} {c : Code} {Q : State → Prop} {dC : Nat → ClassId} {dI : Nat → Nat → Nat} {cs : Nat → ClassId} {a : Nat → Nat} {res : Int32} (C : CallFix p m c cX5_holesMakeWhole 5 s args wsX5_holesMakeWhole RX5) (G : GE dC dI cs s) (hR : RPz p l e ({ frames := 1, cells := 0, slots := 0, locals := 22 }) s m args below meth c cX5_holesMakeWhole Q res) {T : Tw} (hP : va_P (dC, dI) vwCl (wT cs a T) s.heap) (x1 : Int32) (x2 : Int32) (x3 : Int32) (x4 : Int32) (_ : Tw) {K7 : Int32 → Int32 → Int32 → Option Int32} (hK7 : ∀ (x2 : Int32) (x3 : Int32) (x4 : Int32) (ls : Array Slot), lv_has ls 5 [(0, .ref (a 0)), (1, .int (x1)), (2, .int (x2)), (3, .int (x3)), (4, .int (x4))] → K7 x2 x3 x4 = some res → W p l e ({ frames := 1, cells := 0, slots := 0, locals := 22 }) s m args below meth c s.heap [] 0 0 Q (F0 m 7 ls [])) (ls : Array Slot) (hl : lv_has ls 5 [(0, .ref (a 0)), (1, .int (x1)), (2, .int (x2)), (3, .int (x3)), (4, .int (x4))]) (hf : f_X5_holesMakeWhole_36 x1 x2 x3 x4 T K7 = some res) : W p l e ({ frames := 1, cells := 0, slots := 0, locals := 22 }) s m args below meth c s.heap [] 0 0 Q (F0 m 36 ls []) := by
  obtain ⟨hx, hb, hml, hown, hts⟩ := id C
  obtain ⟨hK, hN⟩ := id G
  unfold f_X5_holesMakeWhole_36 at hf
  refine lv_aload_n hx hb dX5_holesMakeWhole_36 rfl (lv_at hl 0 rfl) ?_
  refine va_get (D := (dC, dI)) (ci := 5) (v := .ref (a 7)) (C := RX5) (T := TX5) (N := 17) hx hb hts in_X5_holesMakeWhole_X5 hown hK hP 0 rfl rfl 13 (by decide) (hts (.fieldLink RX5 30 "BackLoans$Town" "state" "[I") (by decide +kernel)) (fun _ h9 => h9) rfl dX5_holesMakeWhole_37 ?_
  refine lv_iload hx hb dX5_holesMakeWhole_40 (lv_at hl 4 rfl) ?_
  obtain ⟨hi1, hf⟩ := gi_e hf
  refine va_iald hx hb hK hP 7 0 rfl rfl hi1 dX5_holesMakeWhole_42 ?_
  refine lv_iconst (v := 2) hx hb dX5_holesMakeWhole_43 (by decide) ?_
  refine lv_icmp_ne (tgt := 57) hx hb dX5_holesMakeWhole_44 (by decide) (fun c2 => ?_) (fun c2 => ?_)
  · replace hf := it_f c2 hf
    refine lv_iconst (v := 0) hx hb dX5_holesMakeWhole_57 (by decide) ?_
    exact hR _ _ _ dX5_holesMakeWhole_58 (by decide) hf
  · replace hf := it_t c2 hf
    refine lv_aload_n hx hb dX5_holesMakeWhole_47 rfl (lv_at hl 0 rfl) ?_
    refine lv_iload_n hx hb dX5_holesMakeWhole_48 rfl (lv_at hl 2 rfl) ?_
    refine lv_iload hx hb dX5_holesMakeWhole_49 (lv_at hl 4 rfl) ?_
    obtain ⟨r51, hr51, hf⟩ := bn_e hf
    have hPc := hP.sub (ws' := (wT cs a T)) [0, 1, 2, 3, 4, 5, 6, 7, 8, 9, 10] rfl
    refine vp_callSi (W.runV (As := [.int (x2), .int (x4)]) (rest := []) C (c_X5_alike l dC dI cs a T x2 x4 r51 hr51) (cwV 2 hts gX5_holesMakeWhole_X5_alike rfl rfl rfl (by decide +kernel) ⟨Nat.le_of_ble_eq_true rfl, Nat.le_of_ble_eq_true rfl⟩) ⟨(fun a U g mk q => ⟨q.1, q.2.1, GE.calling q.2.2⟩), va_recv hK hPc (ci := 5) (q0 := 0) rfl rfl, (fun U hU hW => ⟨rfl, by rw [hU]; exact hPc, GE.warm hW G⟩)⟩ rfl rfl hl.1 rfl (lv_room (Nat.le_of_ble_eq_true rfl)) dX5_holesMakeWhole_51 ⟨Nat.le_of_ble_eq_true rfl, Nat.le_of_ble_eq_true rfl⟩) (fun qr51 hqr51 => ?_)
    obtain ⟨hqr51, hnr51⟩ := hqr51
    obtain rfl := hqr51.symm
    refine lv_if_ne (tgt := 59) hx hb dX5_holesMakeWhole_54 (by decide) (fun c3 => ?_) (fun c3 => ?_)
    · replace hf := it_f c3 hf
      refine lv_iload_n hx hb dX5_holesMakeWhole_59 rfl (lv_at hl 3 rfl) ?_
      refine lv_aload_n hx hb dX5_holesMakeWhole_60 rfl (lv_at hl 0 rfl) ?_
      refine va_get (D := (dC, dI)) (ci := 5) (v := .ref (a 8)) (C := RX5) (T := TX5) (N := 17) hx hb hts in_X5_holesMakeWhole_X5 hown hK hP 0 rfl rfl 14 (by decide) (hts (.fieldLink RX5 33 "BackLoans$Town" "given" "[I") (by decide +kernel)) (fun _ h9 => h9) rfl dX5_holesMakeWhole_61 ?_
      refine lv_iload hx hb dX5_holesMakeWhole_64 (lv_at hl 4 rfl) ?_
      obtain ⟨hi4, hf⟩ := gi_e hf
      refine va_iald hx hb hK hP 8 0 rfl rfl hi4 dX5_holesMakeWhole_66 ?_
      refine lv_iadd hx hb dX5_holesMakeWhole_67 ?_
      refine lv_topi (fun x3_68 ex3_68 => ?_)
      replace hf := lett_s ex3_68 hf
      refine lv_istore_n (lv' := [(3, .int (x3_68)), (0, .ref (a 0)), (1, .int (x1)), (2, .int (x2)), (4, .int (x4))]) hx hb dX5_holesMakeWhole_68 rfl hl (by decide) rfl (fun ls hl => ?_)
      exact b_X5_holesMakeWhole_69 C G hR hP x1 x2 x3_68 x4 T hK7 _ (lv_sub hl [1, 2, 3, 0, 4] rfl) hf
    · replace hf := it_t c3 hf
      refine lv_iconst (v := 0) hx hb dX5_holesMakeWhole_57 (by decide) ?_
      exact hR _ _ _ dX5_holesMakeWhole_58 (by decide) hf
def f_X5_holesMakeWhole_7 (x1 : Int32) (x2 : Int32) (x3 : Int32) (x4 : Int32) (T : Tw) (K7 : Int32 → Int32 → Int32 → Option Int32) (K75 : Int32 → Int32 → Option Int32) : Option Int32 :=
  if (T.1 5) ≤ x4 then (
    K75 x2 x3
  ) else (
    bn (f_X7_hasBit x1 x4) fun r19 =>
    if r19 = 0 then (
      f_X5_holesMakeWhole_69 x1 x2 x3 x4 T K7
    ) else (
      if x2 = (-1 : Int32) then (
        f_X5_holesMakeWhole_36 x1 x4 x3 x4 T K7
      ) else (
        f_X5_holesMakeWhole_36 x1 x2 x3 x4 T K7
      )
    )
  )
set_option maxHeartbeats 4000000 in
set_option maxRecDepth 100000 in
theorem b_X5_holesMakeWhole_7 {p : Program} {l : Launch} {e : Env} {s : State} {m : MethodId} {args : Array Value} {below : List Frame} {meth : Method} {c : Code} {Q : State → Prop} {dC : Nat → ClassId} {dI : Nat → Nat → Nat} {cs : Nat → ClassId} {a : Nat → Nat} {res : Int32} (C : CallFix p m c cX5_holesMakeWhole 5 s args wsX5_holesMakeWhole RX5) (G : GE dC dI cs s) (hR : RPz p l e ({ frames := 1, cells := 0, slots := 0, locals := 22 }) s m args below meth c cX5_holesMakeWhole Q res) {T : Tw} (hP : va_P (dC, dI) vwCl (wT cs a T) s.heap) (x1 : Int32) (x2 : Int32) (x3 : Int32) (x4 : Int32) (_ : Tw) {K7 : Int32 → Int32 → Int32 → Option Int32} {K75 : Int32 → Int32 → Option Int32} (hK7 : ∀ (x2 : Int32) (x3 : Int32) (x4 : Int32) (ls : Array Slot), lv_has ls 5 [(0, .ref (a 0)), (1, .int (x1)), (2, .int (x2)), (3, .int (x3)), (4, .int (x4))] → K7 x2 x3 x4 = some res → W p l e ({ frames := 1, cells := 0, slots := 0, locals := 22 }) s m args below meth c s.heap [] 0 0 Q (F0 m 7 ls [])) (hK75 : ∀ (x2 : Int32) (x3 : Int32) (ls : Array Slot), lv_has ls 5 [(0, .ref (a 0)), (2, .int (x2)), (3, .int (x3))] → K75 x2 x3 = some res → W p l e ({ frames := 1, cells := 0, slots := 0, locals := 22 }) s m args below meth c s.heap [] 0 0 Q (F0 m 75 ls [])) (ls : Array Slot) (hl : lv_has ls 5 [(0, .ref (a 0)), (1, .int (x1)), (2, .int (x2)), (3, .int (x3)), (4, .int (x4))]) (hf : f_X5_holesMakeWhole_7 x1 x2 x3 x4 T K7 K75 = some res) : W p l e ({ frames := 1, cells := 0, slots := 0, locals := 22 }) s m args below meth c s.heap [] 0 0 Q (F0 m 7 ls []) := by
  obtain ⟨hx, hb, hml, hown, hts⟩ := id C
  obtain ⟨hK, hN⟩ := id G
  unfold f_X5_holesMakeWhole_7 at hf
  refine lv_iload hx hb dX5_holesMakeWhole_7 (lv_at hl 4 rfl) ?_
  refine lv_aload_n hx hb dX5_holesMakeWhole_9 rfl (lv_at hl 0 rfl) ?_
  refine va_get (D := (dC, dI)) (ci := 5) (v := .int ((T.1 5))) (C := RX5) (T := TX5) (N := 17) hx hb hts in_X5_holesMakeWhole_X5 hown hK hP 0 rfl rfl 5 (by decide) (hts (.fieldLink RX5 58 "BackLoans$Town" "loans" "I") (by decide +kernel)) (fun _ h9 => h9) rfl dX5_holesMakeWhole_10 ?_
  refine lv_icmp_ge (tgt := 75) hx hb dX5_holesMakeWhole_13 (by decide) (fun c1 => ?_) (fun c1 => ?_)
  · replace hf := it_t c1 hf
    exact hK75 x2 x3 _ (lv_sub hl [0, 2, 3] rfl) hf
  · replace hf := it_f c1 hf
    refine lv_iload_n hx hb dX5_holesMakeWhole_16 rfl (lv_at hl 1 rfl) ?_
    refine lv_iload hx hb dX5_holesMakeWhole_17 (lv_at hl 4 rfl) ?_
    obtain ⟨r19, hr19, hf⟩ := bn_e hf
    have hPc := hP.sub (ws' := ([] : va_W)) [] rfl
    refine vp_callSi (va_Run.run (va_runSN (As := [.int (x1), .int (x4)]) (rest := []) C (c_X7_hasBit l dC dI cs x1 x4 r19 hr19) ⟨va_cnB 2 hts gX5_holesMakeWhole_X7_hasBit_n74 rfl rfl rfl (hN (RX5, 74, yX7_hasBit, RX7) (by decide +kernel)) (hts (.initialized RX7) (by decide +kernel)) (by decide +kernel) ⟨Nat.le_of_ble_eq_true rfl, Nat.le_of_ble_eq_true rfl⟩, (hts (.static yX7_hasBit) (by decide +kernel)), trivial⟩ ⟨(fun a U g mk q => ⟨q.1, q.2.1, GE.calling q.2.2⟩), (fun U hU hW => ⟨rfl, by rw [hU]; exact hPc, GE.warm hW G⟩)⟩ rfl rfl hl.1 rfl (lv_room (Nat.le_of_ble_eq_true rfl)) dX5_holesMakeWhole_19 ⟨Nat.le_of_ble_eq_true rfl, Nat.le_of_ble_eq_true rfl⟩)) (fun qr19 hqr19 => ?_)
    obtain ⟨hqr19, hnr19⟩ := hqr19
    obtain rfl := hqr19.symm
    refine lv_if_ne (tgt := 28) hx hb dX5_holesMakeWhole_22 (by decide) (fun c2 => ?_) (fun c2 => ?_)
    · replace hf := it_f c2 hf
      refine lv_iload_n hx hb dX5_holesMakeWhole_28 rfl (lv_at hl 2 rfl) ?_
      refine lv_iconst (v := -1) hx hb dX5_holesMakeWhole_29 (by decide) ?_
      refine lv_icmp_ne (tgt := 36) hx hb dX5_holesMakeWhole_30 (by decide) (fun c3 => ?_) (fun c3 => ?_)
      · replace hf := it_f c3 hf
        exact b_X5_holesMakeWhole_36 C G hR hP x1 x2 x3 x4 T hK7 _ (lv_sub hl [0, 1, 2, 3, 4] rfl) hf
      · replace hf := it_t c3 hf
        refine lv_iload hx hb dX5_holesMakeWhole_33 (lv_at hl 4 rfl) ?_
        refine lv_istore_n (lv' := [(2, .int (x4)), (0, .ref (a 0)), (1, .int (x1)), (3, .int (x3)), (4, .int (x4))]) hx hb dX5_holesMakeWhole_35 rfl hl (by decide) rfl (fun ls hl => ?_)
        exact b_X5_holesMakeWhole_36 C G hR hP x1 x4 x3 x4 T hK7 _ (lv_sub hl [1, 2, 0, 3, 4] rfl) hf
    · replace hf := it_t c2 hf
      refine lv_goto (tgt := 69) hx hb dX5_holesMakeWhole_25 (by decide) ?_
      exact b_X5_holesMakeWhole_69 C G hR hP x1 x2 x3 x4 T hK7 _ (lv_sub hl [0, 1, 2, 3, 4] rfl) hf
def l_X5_holesMakeWhole_7 (x1 : Int32) (T : Tw) (K75 : Int32 → Int32 → Option Int32) (n : Nat) (x2 : Int32) (x3 : Int32) (x4 : Int32) : Option Int32 := itr (fun (k : Int32 × Int32 × Int32 → Option Int32) (z : Int32 × Int32 × Int32) => f_X5_holesMakeWhole_7 x1 z.1 z.2.1 z.2.2 T (fun x2 x3 x4 => k (x2, x3, x4)) K75) n (x2, x3, x4)
set_option maxHeartbeats 4000000 in
set_option maxRecDepth 100000 in
theorem w_X5_holesMakeWhole_7 {p : Program} {l : Launch} {e : Env} {s : State} {m : MethodId} {args : Array Value} {below : List Frame} {meth : Method} {c : Code} {Q : State → Prop} {dC : Nat → ClassId} {dI : Nat → Nat → Nat} {cs : Nat → ClassId} {a : Nat → Nat} {res : Int32} (C : CallFix p m c cX5_holesMakeWhole 5 s args wsX5_holesMakeWhole RX5) (G : GE dC dI cs s) (hR : RPz p l e ({ frames := 1, cells := 0, slots := 0, locals := 22 }) s m args below meth c cX5_holesMakeWhole Q res) {T : Tw} (hP : va_P (dC, dI) vwCl (wT cs a T) s.heap) (x1 : Int32) (_ : Tw) {K75 : Int32 → Int32 → Option Int32} (hK75 : ∀ (x2 : Int32) (x3 : Int32) (ls : Array Slot), lv_has ls 5 [(0, .ref (a 0)), (2, .int (x2)), (3, .int (x3))] → K75 x2 x3 = some res → W p l e ({ frames := 1, cells := 0, slots := 0, locals := 22 }) s m args below meth c s.heap [] 0 0 Q (F0 m 75 ls [])) : ∀ (n : Nat) (x2 : Int32) (x3 : Int32) (x4 : Int32) (ls : Array Slot), lv_has ls 5 [(0, .ref (a 0)), (1, .int (x1)), (2, .int (x2)), (3, .int (x3)), (4, .int (x4))] → l_X5_holesMakeWhole_7 x1 T K75 n x2 x3 x4 = some res → W p l e ({ frames := 1, cells := 0, slots := 0, locals := 22 }) s m args below meth c s.heap [] 0 0 Q (F0 m 7 ls []) := by
  intro n
  induction n with
  | zero => intro x2 x3 x4 ls hl hf; exact absurd hf (by simp [l_X5_holesMakeWhole_7, itr])
  | succ n ih => intro x2 x3 x4 ls hl hf; exact b_X5_holesMakeWhole_7 C G hR hP x1 x2 x3 x4 T (K7 := fun x2 x3 x4 => l_X5_holesMakeWhole_7 x1 T K75 n x2 x3 x4) (fun x2 x3 x4 ls hl hf => ih x2 x3 x4 ls hl hf) hK75 ls hl hf
def f_X5_holesMakeWhole_75 (x2 : Int32) (x3 : Int32) (T : Tw)  : Option Int32 :=
  if x2 = (-1 : Int32) then (
    some (0 : Int32)
  ) else (
    gi (x2) 8 <|
    if x3 < ((T.2 5) (x2).toNatClampNeg) then (
      some (0 : Int32)
    ) else (
      some (1 : Int32)
    )
  )
set_option maxHeartbeats 4000000 in
set_option maxRecDepth 100000 in
theorem b_X5_holesMakeWhole_75 {p : Program} {l : Launch} {e : Env} {s : State} {m : MethodId} {args : Array Value} {below : List Frame} {meth : Method} {c : Code} {Q : State → Prop} {dC : Nat → ClassId} {dI : Nat → Nat → Nat} {cs : Nat → ClassId} {a : Nat → Nat} {res : Int32} (C : CallFix p m c cX5_holesMakeWhole 5 s args wsX5_holesMakeWhole RX5) (G : GE dC dI cs s) (hR : RPz p l e ({ frames := 1, cells := 0, slots := 0, locals := 22 }) s m args below meth c cX5_holesMakeWhole Q res) {T : Tw} (hP : va_P (dC, dI) vwCl (wT cs a T) s.heap) (x2 : Int32) (x3 : Int32) (_ : Tw)   (ls : Array Slot) (hl : lv_has ls 5 [(0, .ref (a 0)), (2, .int (x2)), (3, .int (x3))]) (hf : f_X5_holesMakeWhole_75 x2 x3 T = some res) : W p l e ({ frames := 1, cells := 0, slots := 0, locals := 22 }) s m args below meth c s.heap [] 0 0 Q (F0 m 75 ls []) := by
  obtain ⟨hx, hb, hml, hown, hts⟩ := id C
  obtain ⟨hK, hN⟩ := id G
  unfold f_X5_holesMakeWhole_75 at hf
  refine lv_iload_n hx hb dX5_holesMakeWhole_75 rfl (lv_at hl 1 rfl) ?_
  refine lv_iconst (v := -1) hx hb dX5_holesMakeWhole_76 (by decide) ?_
  refine lv_icmp_eq (tgt := 94) hx hb dX5_holesMakeWhole_77 (by decide) (fun c1 => ?_) (fun c1 => ?_)
  · replace hf := it_t c1 hf
    refine lv_iconst (v := 0) hx hb dX5_holesMakeWhole_94 (by decide) ?_
    exact hR _ _ _ dX5_holesMakeWhole_95 (by decide) hf
  · replace hf := it_f c1 hf
    refine lv_iload_n hx hb dX5_holesMakeWhole_80 rfl (lv_at hl 2 rfl) ?_
    refine lv_aload_n hx hb dX5_holesMakeWhole_81 rfl (lv_at hl 0 rfl) ?_
    refine va_get (D := (dC, dI)) (ci := 5) (v := .ref (a 6)) (C := RX5) (T := TX5) (N := 17) hx hb hts in_X5_holesMakeWhole_X5 hown hK hP 0 rfl rfl 12 (by decide) (hts (.fieldLink RX5 27 "BackLoans$Town" "times" "[I") (by decide +kernel)) (fun _ h9 => h9) rfl dX5_holesMakeWhole_82 ?_
    refine lv_iload_n hx hb dX5_holesMakeWhole_85 rfl (lv_at hl 1 rfl) ?_
    obtain ⟨hi2, hf⟩ := gi_e hf
    refine va_iald hx hb hK hP 6 0 rfl rfl hi2 dX5_holesMakeWhole_86 ?_
    refine lv_icmp_lt (tgt := 94) hx hb dX5_holesMakeWhole_87 (by decide) (fun c3 => ?_) (fun c3 => ?_)
    · replace hf := it_t c3 hf
      refine lv_iconst (v := 0) hx hb dX5_holesMakeWhole_94 (by decide) ?_
      exact hR _ _ _ dX5_holesMakeWhole_95 (by decide) hf
    · replace hf := it_f c3 hf
      refine lv_iconst (v := 1) hx hb dX5_holesMakeWhole_90 (by decide) ?_
      refine lv_goto (tgt := 95) hx hb dX5_holesMakeWhole_91 (by decide) ?_
      exact hR _ _ _ dX5_holesMakeWhole_95 (by decide) hf
def f_X5_holesMakeWhole (x1 : Int32) (T : Tw) : Option Int32 :=
  lett (-1 : Int32) fun x2_1 =>
  lett (0 : Int32) fun x3_3 =>
  lett (0 : Int32) fun x4_5 =>
  l_X5_holesMakeWhole_7 x1 T (fun x2 x3 => f_X5_holesMakeWhole_75 x2 x3 T) FU x2_1 x3_3 x4_5
set_option maxHeartbeats 4000000 in
set_option maxRecDepth 100000 in
theorem c_X5_holesMakeWhole (l : Launch) (dC : Nat → ClassId) (dI : Nat → Nat → Nat) (cs : Nat → ClassId) (a : Nat → Nat) (T : Tw) (x1 : Int32) (res : Int32) (hf : f_X5_holesMakeWhole x1 T = some res) : Met l yX5_holesMakeWhole wsX5_holesMakeWhole ({ frames := 1, cells := 0, slots := 0, locals := 22 }) (va_Pc [.ref (a 0), .int (x1)] (fun U => va_P (dC, dI) vwCl (wT cs a T) U.heap ∧ GE dC dI cs U)) (vp_Si (fun r => r = res ∧ narrow .boolean (.int r) = .int r)) 0 0 (fun _ => False) := by
  refine Met.ofW (cc := cX5_holesMakeWhole) (maxL := 5) (ret := (some .boolean)) (by decide) rfl ?_
  intro p e s m args below meth c s₁ B hml hv
  obtain ⟨rfl, hP, G⟩ := hv
  have hts := atoms_spec (ws := wsX5_holesMakeWhole) B.pre
  have hown : s.vm.findClass RX5 = some m.cls := findClass_of_methodNamed B.named
  have hlocks := B.notSynchronized
  have hx := B.exec
  have hb := B.bytes
  have hr := B.returns
  have C : CallFix p m c cX5_holesMakeWhole 5 s _ wsX5_holesMakeWhole RX5 := ⟨hx, hb, hml, hown, hts⟩
  obtain ⟨hK, hN⟩ := id G
  have hR : RPz p l e ({ frames := 1, cells := 0, slots := 0, locals := 22 }) s m ([.ref (a 0), .int (x1)] : List Value).toArray below meth c cX5_holesMakeWhole (MQ below (vp_Si (fun r => r = res ∧ narrow .boolean (.int r) = .int r)) ([.ref (a 0), .int (x1)] : List Value).toArray s 0 0 (fun _ => False)) res := fun pc ls r dd hn h => W.zret hx hb hr hn (fun t ht hW => ⟨r, rfl, ⟨Option.some.inj h, hn⟩, ht⟩) (fun q hq => by cases hq) dd
  have hl := lv_entry ([.ref (a 0), .int (x1)]) (n := 5) (Nat.le_of_ble_eq_true rfl)
  rw [lg_entry_eq]
  generalize (lg_sl ([.ref (a 0), .int (x1)]) ++ List.replicate (5 - (lg_sl ([.ref (a 0), .int (x1)])).length) Slot.unset).toArray = ls at hl ⊢
  have hl : lv_has ls 5 [(0, .ref (a 0)), (1, .int (x1))] := hl
  unfold f_X5_holesMakeWhole at hf
  refine lv_iconst (v := -1) hx hb dX5_holesMakeWhole_0 (by decide) ?_
  refine lv_topi (fun x2_1 ex2_1 => ?_)
  replace hf := lett_s ex2_1 hf
  refine lv_istore_n (lv' := [(2, .int (x2_1)), (0, .ref (a 0)), (1, .int (x1))]) hx hb dX5_holesMakeWhole_1 rfl hl (by decide) rfl (fun ls hl => ?_)
  refine lv_iconst (v := 0) hx hb dX5_holesMakeWhole_2 (by decide) ?_
  refine lv_topi (fun x3_3 ex3_3 => ?_)
  replace hf := lett_s ex3_3 hf
  refine lv_istore_n (lv' := [(3, .int (x3_3)), (2, .int (x2_1)), (0, .ref (a 0)), (1, .int (x1))]) hx hb dX5_holesMakeWhole_3 rfl hl (by decide) rfl (fun ls hl => ?_)
  refine lv_iconst (v := 0) hx hb dX5_holesMakeWhole_4 (by decide) ?_
  refine lv_topi (fun x4_5 ex4_5 => ?_)
  replace hf := lett_s ex4_5 hf
  refine lv_istore (lv' := [(4, .int (x4_5)), (3, .int (x3_3)), (2, .int (x2_1)), (0, .ref (a 0)), (1, .int (x1))]) hx hb dX5_holesMakeWhole_5 hl (by decide) rfl (fun ls hl => ?_)
  exact w_X5_holesMakeWhole_7 C G hR hP x1 T (fun x2 x3 ls hl hf => b_X5_holesMakeWhole_75 C G hR hP x2 x3 T _ hl hf) FU x2_1 x3_3 x4_5 _ (lv_sub hl [3, 4, 2, 1, 0] rfl) hf

theorem in_X5_gainOfOffers_X5 : ∀ w ∈ wsX50, w ∈ wsX5_gainOfOffers := by decide +kernel
def f_X5_gainOfOffers_39 (x1 : Int32) (x2 : Int32) (x3 : Int32) (T : Tw) (K4 : Int32 → Int32 → Option Int32) : Option Int32 :=
  lett (x3 + 1) fun x3_39 =>
  K4 x2 x3_39
set_option maxHeartbeats 4000000 in
set_option maxRecDepth 100000 in
theorem b_X5_gainOfOffers_39 {p : Program} {l : Launch} {e : Env} {s : State} {m : MethodId} {args : Array Value} {below : List Frame} {meth : Method} {c : Code} {Q : State → Prop} {dC : Nat → ClassId} {dI : Nat → Nat → Nat} {cs : Nat → ClassId} {a : Nat → Nat} {res : Int32} (C : CallFix p m c cX5_gainOfOffers 4 s args wsX5_gainOfOffers RX5) (G : GE dC dI cs s) (hR : RPi p l e ({ frames := 1, cells := 0, slots := 0, locals := 22 }) s m args below meth c cX5_gainOfOffers Q res) {T : Tw} (hP : va_P (dC, dI) vwCl (wT cs a T) s.heap) (x1 : Int32) (x2 : Int32) (x3 : Int32) (_ : Tw) {K4 : Int32 → Int32 → Option Int32} (hK4 : ∀ (x2 : Int32) (x3 : Int32) (ls : Array Slot), lv_has ls 4 [(0, .ref (a 0)), (1, .int (x1)), (2, .int (x2)), (3, .int (x3))] → K4 x2 x3 = some res → W p l e ({ frames := 1, cells := 0, slots := 0, locals := 22 }) s m args below meth c s.heap [] 0 0 Q (F0 m 4 ls [])) (ls : Array Slot) (hl : lv_has ls 4 [(0, .ref (a 0)), (1, .int (x1)), (2, .int (x2)), (3, .int (x3))]) (hf : f_X5_gainOfOffers_39 x1 x2 x3 T K4 = some res) : W p l e ({ frames := 1, cells := 0, slots := 0, locals := 22 }) s m args below meth c s.heap [] 0 0 Q (F0 m 39 ls []) := by
  obtain ⟨hx, hb, hml, hown, hts⟩ := id C
  obtain ⟨hK, hN⟩ := id G
  unfold f_X5_gainOfOffers_39 at hf
  obtain ⟨x3_39, ex3_39⟩ : ∃ y : Int32, y = (x3 + 1) := ⟨_, rfl⟩
  replace hf := lett_s ex3_39 hf
  refine lv_iinc (v := x3_39) (lv' := [(3, .int (x3_39)), (0, .ref (a 0)), (1, .int (x1)), (2, .int (x2))]) hx hb dX5_gainOfOffers_39 hl (k := 3) rfl (by rw [ex3_39]; rfl) (by decide) rfl (fun ls hl => ?_)
  refine lv_goto (tgt := 4) hx hb dX5_gainOfOffers_42 (by decide) ?_
  exact hK4 x2 x3_39 _ (lv_sub hl [1, 2, 3, 0] rfl) hf
def f_X5_gainOfOffers_4 (x1 : Int32) (x2 : Int32) (x3 : Int32) (T : Tw) (K4 : Int32 → Int32 → Option Int32) : Option Int32 :=
  if (T.1 6) ≤ x3 then (
    some x2
  ) else (
    bn (f_X7_hasBit x1 x3) fun r14 =>
    if r14 = 0 then (
      f_X5_gainOfOffers_39 x1 x2 x3 T K4
    ) else (
      gi (x3) 8 <|
      gi (x3) 8 <|
      bn (f_X5_gainOf ((T.2 8) (x3).toNatClampNeg) ((T.2 9) (x3).toNatClampNeg) T) fun r34 =>
      lett (x2 + r34) fun x2_38 =>
      f_X5_gainOfOffers_39 x1 x2_38 x3 T K4
    )
  )
set_option maxHeartbeats 4000000 in
set_option maxRecDepth 100000 in
theorem b_X5_gainOfOffers_4 {p : Program} {l : Launch} {e : Env} {s : State} {m : MethodId} {args : Array Value} {below : List Frame} {meth : Method} {c : Code} {Q : State → Prop} {dC : Nat → ClassId} {dI : Nat → Nat → Nat} {cs : Nat → ClassId} {a : Nat → Nat} {res : Int32} (C : CallFix p m c cX5_gainOfOffers 4 s args wsX5_gainOfOffers RX5) (G : GE dC dI cs s) (hR : RPi p l e ({ frames := 1, cells := 0, slots := 0, locals := 22 }) s m args below meth c cX5_gainOfOffers Q res) {T : Tw} (hP : va_P (dC, dI) vwCl (wT cs a T) s.heap) (x1 : Int32) (x2 : Int32) (x3 : Int32) (_ : Tw) {K4 : Int32 → Int32 → Option Int32} (hK4 : ∀ (x2 : Int32) (x3 : Int32) (ls : Array Slot), lv_has ls 4 [(0, .ref (a 0)), (1, .int (x1)), (2, .int (x2)), (3, .int (x3))] → K4 x2 x3 = some res → W p l e ({ frames := 1, cells := 0, slots := 0, locals := 22 }) s m args below meth c s.heap [] 0 0 Q (F0 m 4 ls [])) (ls : Array Slot) (hl : lv_has ls 4 [(0, .ref (a 0)), (1, .int (x1)), (2, .int (x2)), (3, .int (x3))]) (hf : f_X5_gainOfOffers_4 x1 x2 x3 T K4 = some res) : W p l e ({ frames := 1, cells := 0, slots := 0, locals := 22 }) s m args below meth c s.heap [] 0 0 Q (F0 m 4 ls []) := by
  obtain ⟨hx, hb, hml, hown, hts⟩ := id C
  obtain ⟨hK, hN⟩ := id G
  unfold f_X5_gainOfOffers_4 at hf
  refine lv_iload_n hx hb dX5_gainOfOffers_4 rfl (lv_at hl 3 rfl) ?_
  refine lv_aload_n hx hb dX5_gainOfOffers_5 rfl (lv_at hl 0 rfl) ?_
  refine va_get (D := (dC, dI)) (ci := 5) (v := .int ((T.1 6))) (C := RX5) (T := TX5) (N := 17) hx hb hts in_X5_gainOfOffers_X5 hown hK hP 0 rfl rfl 6 (by decide) (hts (.fieldLink RX5 61 "BackLoans$Town" "offers" "I") (by decide +kernel)) (fun _ h9 => h9) rfl dX5_gainOfOffers_6 ?_
  refine lv_icmp_ge (tgt := 45) hx hb dX5_gainOfOffers_9 (by decide) (fun c1 => ?_) (fun c1 => ?_)
  · replace hf := it_t c1 hf
    refine lv_iload_n hx hb dX5_gainOfOffers_45 rfl (lv_at hl 2 rfl) ?_
    exact hR _ _ _ dX5_gainOfOffers_46 hf
  · replace hf := it_f c1 hf
    refine lv_iload_n hx hb dX5_gainOfOffers_12 rfl (lv_at hl 1 rfl) ?_
    refine lv_iload_n hx hb dX5_gainOfOffers_13 rfl (lv_at hl 3 rfl) ?_
    obtain ⟨r14, hr14, hf⟩ := bn_e hf
    have hPc := hP.sub (ws' := ([] : va_W)) [] rfl
    refine vp_callSi (va_Run.run (va_runSN (As := [.int (x1), .int (x3)]) (rest := []) C (c_X7_hasBit l dC dI cs x1 x3 r14 hr14) ⟨va_cnB 2 hts gX5_gainOfOffers_X7_hasBit_n74 rfl rfl rfl (hN (RX5, 74, yX7_hasBit, RX7) (by decide +kernel)) (hts (.initialized RX7) (by decide +kernel)) (by decide +kernel) ⟨Nat.le_of_ble_eq_true rfl, Nat.le_of_ble_eq_true rfl⟩, (hts (.static yX7_hasBit) (by decide +kernel)), trivial⟩ ⟨(fun a U g mk q => ⟨q.1, q.2.1, GE.calling q.2.2⟩), (fun U hU hW => ⟨rfl, by rw [hU]; exact hPc, GE.warm hW G⟩)⟩ rfl rfl hl.1 rfl (lv_room (Nat.le_of_ble_eq_true rfl)) dX5_gainOfOffers_14 ⟨Nat.le_of_ble_eq_true rfl, Nat.le_of_ble_eq_true rfl⟩)) (fun qr14 hqr14 => ?_)
    obtain ⟨hqr14, hnr14⟩ := hqr14
    obtain rfl := hqr14.symm
    refine lv_if_eq (tgt := 39) hx hb dX5_gainOfOffers_17 (by decide) (fun c2 => ?_) (fun c2 => ?_)
    · replace hf := it_t c2 hf
      exact b_X5_gainOfOffers_39 C G hR hP x1 x2 x3 T hK4 _ (lv_sub hl [0, 1, 2, 3] rfl) hf
    · replace hf := it_f c2 hf
      refine lv_iload_n hx hb dX5_gainOfOffers_20 rfl (lv_at hl 2 rfl) ?_
      refine lv_aload_n hx hb dX5_gainOfOffers_21 rfl (lv_at hl 0 rfl) ?_
      refine lv_aload_n hx hb dX5_gainOfOffers_22 rfl (lv_at hl 0 rfl) ?_
      refine va_get (D := (dC, dI)) (ci := 5) (v := .ref (a 9)) (C := RX5) (T := TX5) (N := 17) hx hb hts in_X5_gainOfOffers_X5 hown hK hP 0 rfl rfl 15 (by decide) (hts (.fieldLink RX5 36 "BackLoans$Town" "offerPence" "[I") (by decide +kernel)) (fun _ h9 => h9) rfl dX5_gainOfOffers_23 ?_
      refine lv_iload_n hx hb dX5_gainOfOffers_26 rfl (lv_at hl 3 rfl) ?_
      obtain ⟨hi3, hf⟩ := gi_e hf
      refine va_iald hx hb hK hP 9 0 rfl rfl hi3 dX5_gainOfOffers_27 ?_
      refine lv_aload_n hx hb dX5_gainOfOffers_28 rfl (lv_at hl 0 rfl) ?_
      refine va_get (D := (dC, dI)) (ci := 5) (v := .ref (a 10)) (C := RX5) (T := TX5) (N := 17) hx hb hts in_X5_gainOfOffers_X5 hown hK hP 0 rfl rfl 16 (by decide) (hts (.fieldLink RX5 39 "BackLoans$Town" "offerTimes" "[I") (by decide +kernel)) (fun _ h9 => h9) rfl dX5_gainOfOffers_29 ?_
      refine lv_iload_n hx hb dX5_gainOfOffers_32 rfl (lv_at hl 3 rfl) ?_
      obtain ⟨hi4, hf⟩ := gi_e hf
      refine va_iald hx hb hK hP 10 0 rfl rfl hi4 dX5_gainOfOffers_33 ?_
      obtain ⟨r34, hr34, hf⟩ := bn_e hf
      have hPc := hP.sub (ws' := (wT cs a T)) [0, 1, 2, 3, 4, 5, 6, 7, 8, 9, 10] rfl
      refine vp_callSi (W.runV (As := [.int (((T.2 8) (x3).toNatClampNeg)), .int (((T.2 9) (x3).toNatClampNeg))]) (rest := [.int (x2)]) C (c_X5_gainOf l dC dI cs a T ((T.2 8) (x3).toNatClampNeg) ((T.2 9) (x3).toNatClampNeg) r34 hr34) (cwV 2 hts gX5_gainOfOffers_X5_gainOf rfl rfl rfl (by decide +kernel) ⟨Nat.le_of_ble_eq_true rfl, Nat.le_of_ble_eq_true rfl⟩) ⟨(fun a U g mk q => ⟨q.1, q.2.1, GE.calling q.2.2⟩), va_recv hK hPc (ci := 5) (q0 := 0) rfl rfl, (fun U hU hW => ⟨rfl, by rw [hU]; exact hPc, GE.warm hW G⟩)⟩ rfl rfl hl.1 rfl (lv_room (Nat.le_of_ble_eq_true rfl)) dX5_gainOfOffers_34 ⟨Nat.le_of_ble_eq_true rfl, Nat.le_of_ble_eq_true rfl⟩) (fun qr34 hqr34 => ?_)
      obtain rfl := hqr34.symm
      refine lv_iadd hx hb dX5_gainOfOffers_37 ?_
      refine lv_topi (fun x2_38 ex2_38 => ?_)
      replace hf := lett_s ex2_38 hf
      refine lv_istore_n (lv' := [(2, .int (x2_38)), (0, .ref (a 0)), (1, .int (x1)), (3, .int (x3))]) hx hb dX5_gainOfOffers_38 rfl hl (by decide) rfl (fun ls hl => ?_)
      exact b_X5_gainOfOffers_39 C G hR hP x1 x2_38 x3 T hK4 _ (lv_sub hl [1, 2, 0, 3] rfl) hf
def l_X5_gainOfOffers_4 (x1 : Int32) (T : Tw)  (n : Nat) (x2 : Int32) (x3 : Int32) : Option Int32 := itr (fun (k : Int32 × Int32 → Option Int32) (z : Int32 × Int32) => f_X5_gainOfOffers_4 x1 z.1 z.2 T (fun x2 x3 => k (x2, x3))) n (x2, x3)
set_option maxHeartbeats 4000000 in
set_option maxRecDepth 100000 in
theorem w_X5_gainOfOffers_4 {p : Program} {l : Launch} {e : Env} {s : State} {m : MethodId} {args : Array Value} {below : List Frame} {meth : Method} {c : Code} {Q : State → Prop} {dC : Nat → ClassId} {dI : Nat → Nat → Nat} {cs : Nat → ClassId} {a : Nat → Nat} {res : Int32} (C : CallFix p m c cX5_gainOfOffers 4 s args wsX5_gainOfOffers RX5) (G : GE dC dI cs s) (hR : RPi p l e ({ frames := 1, cells := 0, slots := 0, locals := 22 }) s m args below meth c cX5_gainOfOffers Q res) {T : Tw} (hP : va_P (dC, dI) vwCl (wT cs a T) s.heap) (x1 : Int32) (_ : Tw)   : ∀ (n : Nat) (x2 : Int32) (x3 : Int32) (ls : Array Slot), lv_has ls 4 [(0, .ref (a 0)), (1, .int (x1)), (2, .int (x2)), (3, .int (x3))] → l_X5_gainOfOffers_4 x1 T n x2 x3 = some res → W p l e ({ frames := 1, cells := 0, slots := 0, locals := 22 }) s m args below meth c s.heap [] 0 0 Q (F0 m 4 ls []) := by
  intro n
  induction n with
  | zero => intro x2 x3 ls hl hf; exact absurd hf (by simp [l_X5_gainOfOffers_4, itr])
  | succ n ih => intro x2 x3 ls hl hf; exact b_X5_gainOfOffers_4 C G hR hP x1 x2 x3 T (K4 := fun x2 x3 => l_X5_gainOfOffers_4 x1 T n x2 x3) (fun x2 x3 ls hl hf => ih x2 x3 ls hl hf) ls hl hf
def f_X5_gainOfOffers (x1 : Int32) (T : Tw) : Option Int32 :=
  lett (0 : Int32) fun x2_1 =>
  lett (0 : Int32) fun x3_3 =>
  l_X5_gainOfOffers_4 x1 T FU x2_1 x3_3
set_option maxHeartbeats 4000000 in
set_option maxRecDepth 100000 in
theorem c_X5_gainOfOffers (l : Launch) (dC : Nat → ClassId) (dI : Nat → Nat → Nat) (cs : Nat → ClassId) (a : Nat → Nat) (T : Tw) (x1 : Int32) (res : Int32) (hf : f_X5_gainOfOffers x1 T = some res) : Met l yX5_gainOfOffers wsX5_gainOfOffers ({ frames := 1, cells := 0, slots := 0, locals := 22 }) (va_Pc [.ref (a 0), .int (x1)] (fun U => va_P (dC, dI) vwCl (wT cs a T) U.heap ∧ GE dC dI cs U)) (vp_Si (fun r => r = res)) 0 0 (fun _ => False) := by
  refine Met.ofW (cc := cX5_gainOfOffers) (maxL := 4) (ret := (some .int)) (by decide) rfl ?_
  intro p e s m args below meth c s₁ B hml hv
  obtain ⟨rfl, hP, G⟩ := hv
  have hts := atoms_spec (ws := wsX5_gainOfOffers) B.pre
  have hown : s.vm.findClass RX5 = some m.cls := findClass_of_methodNamed B.named
  have hlocks := B.notSynchronized
  have hx := B.exec
  have hb := B.bytes
  have hr := B.returns
  have C : CallFix p m c cX5_gainOfOffers 4 s _ wsX5_gainOfOffers RX5 := ⟨hx, hb, hml, hown, hts⟩
  obtain ⟨hK, hN⟩ := id G
  have hR : RPi p l e ({ frames := 1, cells := 0, slots := 0, locals := 22 }) s m ([.ref (a 0), .int (x1)] : List Value).toArray below meth c cX5_gainOfOffers (MQ below (vp_Si (fun r => r = res)) ([.ref (a 0), .int (x1)] : List Value).toArray s 0 0 (fun _ => False)) res := fun pc ls r dd h => W.iret hx hb hr (fun t ht hW => ⟨r, rfl, Option.some.inj h, ht⟩) (fun q hq => by cases hq) dd
  have hl := lv_entry ([.ref (a 0), .int (x1)]) (n := 4) (Nat.le_of_ble_eq_true rfl)
  rw [lg_entry_eq]
  generalize (lg_sl ([.ref (a 0), .int (x1)]) ++ List.replicate (4 - (lg_sl ([.ref (a 0), .int (x1)])).length) Slot.unset).toArray = ls at hl ⊢
  have hl : lv_has ls 4 [(0, .ref (a 0)), (1, .int (x1))] := hl
  unfold f_X5_gainOfOffers at hf
  refine lv_iconst (v := 0) hx hb dX5_gainOfOffers_0 (by decide) ?_
  refine lv_topi (fun x2_1 ex2_1 => ?_)
  replace hf := lett_s ex2_1 hf
  refine lv_istore_n (lv' := [(2, .int (x2_1)), (0, .ref (a 0)), (1, .int (x1))]) hx hb dX5_gainOfOffers_1 rfl hl (by decide) rfl (fun ls hl => ?_)
  refine lv_iconst (v := 0) hx hb dX5_gainOfOffers_2 (by decide) ?_
  refine lv_topi (fun x3_3 ex3_3 => ?_)
  replace hf := lett_s ex3_3 hf
  refine lv_istore_n (lv' := [(3, .int (x3_3)), (2, .int (x2_1)), (0, .ref (a 0)), (1, .int (x1))]) hx hb dX5_gainOfOffers_3 rfl hl (by decide) rfl (fun ls hl => ?_)
  exact w_X5_gainOfOffers_4 C G hR hP x1 T FU x2_1 x3_3 _ (lv_sub hl [2, 3, 1, 0] rfl) hf

theorem in_X5_givenPence_X5 : ∀ w ∈ wsX50, w ∈ wsX5_givenPence := by decide +kernel
def f_X5_givenPence (x1 : Int32) (T : Tw) : Option Int32 :=
  gi (x1) 8 <|
  gi (x1) 8 <|
  some (((T.2 4) (x1).toNatClampNeg) * ((T.2 7) (x1).toNatClampNeg))
set_option maxHeartbeats 4000000 in
set_option maxRecDepth 100000 in
theorem c_X5_givenPence (l : Launch) (dC : Nat → ClassId) (dI : Nat → Nat → Nat) (cs : Nat → ClassId) (a : Nat → Nat) (T : Tw) (x1 : Int32) (res : Int32) (hf : f_X5_givenPence x1 T = some res) : Met l yX5_givenPence wsX5_givenPence ({ frames := 0, cells := 0, slots := 0, locals := 0 }) (va_Pc [.ref (a 0), .int (x1)] (fun U => va_P (dC, dI) vwCl (wT cs a T) U.heap ∧ GE dC dI cs U)) (vp_Si (fun r => r = res)) 0 0 (fun _ => False) := by
  refine Met.ofW (cc := cX5_givenPence) (maxL := 2) (ret := (some .int)) (by decide) rfl ?_
  intro p e s m args below meth c s₁ B hml hv
  obtain ⟨rfl, hP, G⟩ := hv
  have hts := atoms_spec (ws := wsX5_givenPence) B.pre
  have hown : s.vm.findClass RX5 = some m.cls := findClass_of_methodNamed B.named
  have hlocks := B.notSynchronized
  have hx := B.exec
  have hb := B.bytes
  have hr := B.returns
  have C : CallFix p m c cX5_givenPence 2 s _ wsX5_givenPence RX5 := ⟨hx, hb, hml, hown, hts⟩
  obtain ⟨hK, hN⟩ := id G
  have hR : RPi p l e ({ frames := 0, cells := 0, slots := 0, locals := 0 }) s m ([.ref (a 0), .int (x1)] : List Value).toArray below meth c cX5_givenPence (MQ below (vp_Si (fun r => r = res)) ([.ref (a 0), .int (x1)] : List Value).toArray s 0 0 (fun _ => False)) res := fun pc ls r dd h => W.iret hx hb hr (fun t ht hW => ⟨r, rfl, Option.some.inj h, ht⟩) (fun q hq => by cases hq) dd
  have hl := lv_entry ([.ref (a 0), .int (x1)]) (n := 2) (Nat.le_of_ble_eq_true rfl)
  rw [lg_entry_eq]
  generalize (lg_sl ([.ref (a 0), .int (x1)]) ++ List.replicate (2 - (lg_sl ([.ref (a 0), .int (x1)])).length) Slot.unset).toArray = ls at hl ⊢
  have hl : lv_has ls 2 [(0, .ref (a 0)), (1, .int (x1))] := hl
  unfold f_X5_givenPence at hf
  refine lv_aload_n hx hb dX5_givenPence_0 rfl (lv_at hl 0 rfl) ?_
  refine va_get (D := (dC, dI)) (ci := 5) (v := .ref (a 5)) (C := RX5) (T := TX5) (N := 17) hx hb hts in_X5_givenPence_X5 hown hK hP 0 rfl rfl 11 (by decide) (hts (.fieldLink RX5 24 "BackLoans$Town" "pence" "[I") (by decide +kernel)) (fun _ h9 => h9) rfl dX5_givenPence_1 ?_
  refine lv_iload_n hx hb dX5_givenPence_4 rfl (lv_at hl 1 rfl) ?_
  obtain ⟨hi1, hf⟩ := gi_e hf
  refine va_iald hx hb hK hP 5 0 rfl rfl hi1 dX5_givenPence_5 ?_
  refine lv_aload_n hx hb dX5_givenPence_6 rfl (lv_at hl 0 rfl) ?_
  refine va_get (D := (dC, dI)) (ci := 5) (v := .ref (a 8)) (C := RX5) (T := TX5) (N := 17) hx hb hts in_X5_givenPence_X5 hown hK hP 0 rfl rfl 14 (by decide) (hts (.fieldLink RX5 33 "BackLoans$Town" "given" "[I") (by decide +kernel)) (fun _ h9 => h9) rfl dX5_givenPence_7 ?_
  refine lv_iload_n hx hb dX5_givenPence_10 rfl (lv_at hl 1 rfl) ?_
  obtain ⟨hi2, hf⟩ := gi_e hf
  refine va_iald hx hb hK hP 8 0 rfl rfl hi2 dX5_givenPence_11 ?_
  refine lv_imul hx hb dX5_givenPence_12 ?_
  exact hR _ _ _ dX5_givenPence_13 hf

theorem in_X5_wantOf_X5 : ∀ w ∈ wsX50, w ∈ wsX5_wantOf := by decide +kernel
def f_X5_wantOf_35 (x1 : Int32) (T : Tw)  : Option Int32 :=
  bn (f_X5_givenPence x1 T) fun r37 =>
  some r37
set_option maxHeartbeats 4000000 in
set_option maxRecDepth 100000 in
theorem b_X5_wantOf_35 {p : Program} {l : Launch} {e : Env} {s : State} {m : MethodId} {args : Array Value} {below : List Frame} {meth : Method} {c : Code} {Q : State → Prop} {dC : Nat → ClassId} {dI : Nat → Nat → Nat} {cs : Nat → ClassId} {a : Nat → Nat} {res : Int32} (C : CallFix p m c cX5_wantOf 2 s args wsX5_wantOf RX5) (G : GE dC dI cs s) (hR : RPi p l e ({ frames := 2, cells := 0, slots := 0, locals := 43 }) s m args below meth c cX5_wantOf Q res) {T : Tw} (hP : va_P (dC, dI) vwCl (wT cs a T) s.heap) (x1 : Int32) (_ : Tw)   (ls : Array Slot) (hl : lv_has ls 2 [(0, .ref (a 0)), (1, .int (x1))]) (hf : f_X5_wantOf_35 x1 T = some res) : W p l e ({ frames := 2, cells := 0, slots := 0, locals := 43 }) s m args below meth c s.heap [] 0 0 Q (F0 m 35 ls []) := by
  obtain ⟨hx, hb, hml, hown, hts⟩ := id C
  obtain ⟨hK, hN⟩ := id G
  unfold f_X5_wantOf_35 at hf
  refine lv_aload_n hx hb dX5_wantOf_35 rfl (lv_at hl 0 rfl) ?_
  refine lv_iload_n hx hb dX5_wantOf_36 rfl (lv_at hl 1 rfl) ?_
  obtain ⟨r37, hr37, hf⟩ := bn_e hf
  have hPc := hP.sub (ws' := (wT cs a T)) [0, 1, 2, 3, 4, 5, 6, 7, 8, 9, 10] rfl
  refine vp_callSi (W.runV (As := [.int (x1)]) (rest := []) C (c_X5_givenPence l dC dI cs a T x1 r37 hr37) (cwV 1 hts gX5_wantOf_X5_givenPence rfl rfl rfl (by decide +kernel) ⟨Nat.le_of_ble_eq_true rfl, Nat.le_of_ble_eq_true rfl⟩) ⟨(fun a U g mk q => ⟨q.1, q.2.1, GE.calling q.2.2⟩), va_recv hK hPc (ci := 5) (q0 := 0) rfl rfl, (fun U hU hW => ⟨rfl, by rw [hU]; exact hPc, GE.warm hW G⟩)⟩ rfl rfl hl.1 rfl (lv_room (Nat.le_of_ble_eq_true rfl)) dX5_wantOf_37 ⟨Nat.le_of_ble_eq_true rfl, Nat.le_of_ble_eq_true rfl⟩) (fun qr37 hqr37 => ?_)
  obtain rfl := hqr37.symm
  refine lv_goto (tgt := 44) hx hb dX5_wantOf_40 (by decide) ?_
  exact hR _ _ _ dX5_wantOf_44 hf
def f_X5_wantOf (x1 : Int32) (T : Tw) : Option Int32 :=
  gi (x1) 8 <|
  if ((T.2 6) (x1).toNatClampNeg) = (3 : Int32) then (
    bn (f_X5_wholeOf x1 T) fun r12 =>
    some r12
  ) else (
    gi (x1) 8 <|
    if ((T.2 6) (x1).toNatClampNeg) = 0 then (
      f_X5_wantOf_35 x1 T
    ) else (
      gi (x1) 8 <|
      if ((T.2 6) (x1).toNatClampNeg) = (2 : Int32) then (
        f_X5_wantOf_35 x1 T
      ) else (
        some (0 : Int32)
      )
    )
  )
set_option maxHeartbeats 4000000 in
set_option maxRecDepth 100000 in
theorem c_X5_wantOf (l : Launch) (dC : Nat → ClassId) (dI : Nat → Nat → Nat) (cs : Nat → ClassId) (a : Nat → Nat) (T : Tw) (x1 : Int32) (res : Int32) (hf : f_X5_wantOf x1 T = some res) : Met l yX5_wantOf wsX5_wantOf ({ frames := 2, cells := 0, slots := 0, locals := 43 }) (va_Pc [.ref (a 0), .int (x1)] (fun U => va_P (dC, dI) vwCl (wT cs a T) U.heap ∧ GE dC dI cs U)) (vp_Si (fun r => r = res)) 0 0 (fun _ => False) := by
  refine Met.ofW (cc := cX5_wantOf) (maxL := 2) (ret := (some .int)) (by decide) rfl ?_
  intro p e s m args below meth c s₁ B hml hv
  obtain ⟨rfl, hP, G⟩ := hv
  have hts := atoms_spec (ws := wsX5_wantOf) B.pre
  have hown : s.vm.findClass RX5 = some m.cls := findClass_of_methodNamed B.named
  have hlocks := B.notSynchronized
  have hx := B.exec
  have hb := B.bytes
  have hr := B.returns
  have C : CallFix p m c cX5_wantOf 2 s _ wsX5_wantOf RX5 := ⟨hx, hb, hml, hown, hts⟩
  obtain ⟨hK, hN⟩ := id G
  have hR : RPi p l e ({ frames := 2, cells := 0, slots := 0, locals := 43 }) s m ([.ref (a 0), .int (x1)] : List Value).toArray below meth c cX5_wantOf (MQ below (vp_Si (fun r => r = res)) ([.ref (a 0), .int (x1)] : List Value).toArray s 0 0 (fun _ => False)) res := fun pc ls r dd h => W.iret hx hb hr (fun t ht hW => ⟨r, rfl, Option.some.inj h, ht⟩) (fun q hq => by cases hq) dd
  have hl := lv_entry ([.ref (a 0), .int (x1)]) (n := 2) (Nat.le_of_ble_eq_true rfl)
  rw [lg_entry_eq]
  generalize (lg_sl ([.ref (a 0), .int (x1)]) ++ List.replicate (2 - (lg_sl ([.ref (a 0), .int (x1)])).length) Slot.unset).toArray = ls at hl ⊢
  have hl : lv_has ls 2 [(0, .ref (a 0)), (1, .int (x1))] := hl
  unfold f_X5_wantOf at hf
  refine lv_aload_n hx hb dX5_wantOf_0 rfl (lv_at hl 0 rfl) ?_
  refine va_get (D := (dC, dI)) (ci := 5) (v := .ref (a 7)) (C := RX5) (T := TX5) (N := 17) hx hb hts in_X5_wantOf_X5 hown hK hP 0 rfl rfl 13 (by decide) (hts (.fieldLink RX5 30 "BackLoans$Town" "state" "[I") (by decide +kernel)) (fun _ h9 => h9) rfl dX5_wantOf_1 ?_
  refine lv_iload_n hx hb dX5_wantOf_4 rfl (lv_at hl 1 rfl) ?_
  obtain ⟨hi1, hf⟩ := gi_e hf
  refine va_iald hx hb hK hP 7 0 rfl rfl hi1 dX5_wantOf_5 ?_
  refine lv_iconst (v := 3) hx hb dX5_wantOf_6 (by decide) ?_
  refine lv_icmp_ne (tgt := 16) hx hb dX5_wantOf_7 (by decide) (fun c2 => ?_) (fun c2 => ?_)
  · replace hf := it_f c2 hf
    refine lv_aload_n hx hb dX5_wantOf_16 rfl (lv_at hl 0 rfl) ?_
    refine va_get (D := (dC, dI)) (ci := 5) (v := .ref (a 7)) (C := RX5) (T := TX5) (N := 17) hx hb hts in_X5_wantOf_X5 hown hK hP 0 rfl rfl 13 (by decide) (hts (.fieldLink RX5 30 "BackLoans$Town" "state" "[I") (by decide +kernel)) (fun _ h9 => h9) rfl dX5_wantOf_17 ?_
    refine lv_iload_n hx hb dX5_wantOf_20 rfl (lv_at hl 1 rfl) ?_
    obtain ⟨hi3, hf⟩ := gi_e hf
    refine va_iald hx hb hK hP 7 0 rfl rfl hi3 dX5_wantOf_21 ?_
    refine lv_if_eq (tgt := 35) hx hb dX5_wantOf_22 (by decide) (fun c4 => ?_) (fun c4 => ?_)
    · replace hf := it_t c4 hf
      exact b_X5_wantOf_35 C G hR hP x1 T _ (lv_sub hl [0, 1] rfl) hf
    · replace hf := it_f c4 hf
      refine lv_aload_n hx hb dX5_wantOf_25 rfl (lv_at hl 0 rfl) ?_
      refine va_get (D := (dC, dI)) (ci := 5) (v := .ref (a 7)) (C := RX5) (T := TX5) (N := 17) hx hb hts in_X5_wantOf_X5 hown hK hP 0 rfl rfl 13 (by decide) (hts (.fieldLink RX5 30 "BackLoans$Town" "state" "[I") (by decide +kernel)) (fun _ h9 => h9) rfl dX5_wantOf_26 ?_
      refine lv_iload_n hx hb dX5_wantOf_29 rfl (lv_at hl 1 rfl) ?_
      obtain ⟨hi5, hf⟩ := gi_e hf
      refine va_iald hx hb hK hP 7 0 rfl rfl hi5 dX5_wantOf_30 ?_
      refine lv_iconst (v := 2) hx hb dX5_wantOf_31 (by decide) ?_
      refine lv_icmp_ne (tgt := 43) hx hb dX5_wantOf_32 (by decide) (fun c6 => ?_) (fun c6 => ?_)
      · replace hf := it_f c6 hf
        refine lv_iconst (v := 0) hx hb dX5_wantOf_43 (by decide) ?_
        exact hR _ _ _ dX5_wantOf_44 hf
      · replace hf := it_t c6 hf
        exact b_X5_wantOf_35 C G hR hP x1 T _ (lv_sub hl [0, 1] rfl) hf
  · replace hf := it_t c2 hf
    refine lv_aload_n hx hb dX5_wantOf_10 rfl (lv_at hl 0 rfl) ?_
    refine lv_iload_n hx hb dX5_wantOf_11 rfl (lv_at hl 1 rfl) ?_
    obtain ⟨r12, hr12, hf⟩ := bn_e hf
    have hPc := hP.sub (ws' := (wT cs a T)) [0, 1, 2, 3, 4, 5, 6, 7, 8, 9, 10] rfl
    refine vp_callSi (W.runV (As := [.int (x1)]) (rest := []) C (c_X5_wholeOf l dC dI cs a T x1 r12 hr12) (cwV 1 hts gX5_wantOf_X5_wholeOf rfl rfl rfl (by decide +kernel) ⟨Nat.le_of_ble_eq_true rfl, Nat.le_of_ble_eq_true rfl⟩) ⟨(fun a U g mk q => ⟨q.1, q.2.1, GE.calling q.2.2⟩), va_recv hK hPc (ci := 5) (q0 := 0) rfl rfl, (fun U hU hW => ⟨rfl, by rw [hU]; exact hPc, GE.warm hW G⟩)⟩ rfl rfl hl.1 rfl (lv_room (Nat.le_of_ble_eq_true rfl)) dX5_wantOf_12 ⟨Nat.le_of_ble_eq_true rfl, Nat.le_of_ble_eq_true rfl⟩) (fun qr12 hqr12 => ?_)
    obtain rfl := hqr12.symm
    exact hR _ _ _ dX5_wantOf_15 hf

theorem in_X5_wantedByAll_X5 : ∀ w ∈ wsX50, w ∈ wsX5_wantedByAll := by decide +kernel
def f_X5_wantedByAll_4 (x1 : Int32) (x2 : Int32) (T : Tw) (K4 : Int32 → Int32 → Option Int32) : Option Int32 :=
  if (T.1 5) ≤ x2 then (
    some x1
  ) else (
    bn (f_X5_wantOf x2 T) fun r15 =>
    lett (x1 + r15) fun x1_19 =>
    lett (x2 + 1) fun x2_20 =>
    K4 x1_19 x2_20
  )
set_option maxHeartbeats 4000000 in
set_option maxRecDepth 100000 in
theorem b_X5_wantedByAll_4 {p : Program} {l : Launch} {e : Env} {s : State} {m : MethodId} {args : Array Value} {below : List Frame} {meth : Method} {c : Code} {Q : State → Prop} {dC : Nat → ClassId} {dI : Nat → Nat → Nat} {cs : Nat → ClassId} {a : Nat → Nat} {res : Int32} (C : CallFix p m c cX5_wantedByAll 3 s args wsX5_wantedByAll RX5) (G : GE dC dI cs s) (hR : RPi p l e ({ frames := 3, cells := 0, slots := 0, locals := 64 }) s m args below meth c cX5_wantedByAll Q res) {T : Tw} (hP : va_P (dC, dI) vwCl (wT cs a T) s.heap) (x1 : Int32) (x2 : Int32) (_ : Tw) {K4 : Int32 → Int32 → Option Int32} (hK4 : ∀ (x1 : Int32) (x2 : Int32) (ls : Array Slot), lv_has ls 3 [(0, .ref (a 0)), (1, .int (x1)), (2, .int (x2))] → K4 x1 x2 = some res → W p l e ({ frames := 3, cells := 0, slots := 0, locals := 64 }) s m args below meth c s.heap [] 0 0 Q (F0 m 4 ls [])) (ls : Array Slot) (hl : lv_has ls 3 [(0, .ref (a 0)), (1, .int (x1)), (2, .int (x2))]) (hf : f_X5_wantedByAll_4 x1 x2 T K4 = some res) : W p l e ({ frames := 3, cells := 0, slots := 0, locals := 64 }) s m args below meth c s.heap [] 0 0 Q (F0 m 4 ls []) := by
  obtain ⟨hx, hb, hml, hown, hts⟩ := id C
  obtain ⟨hK, hN⟩ := id G
  unfold f_X5_wantedByAll_4 at hf
  refine lv_iload_n hx hb dX5_wantedByAll_4 rfl (lv_at hl 2 rfl) ?_
  refine lv_aload_n hx hb dX5_wantedByAll_5 rfl (lv_at hl 0 rfl) ?_
  refine va_get (D := (dC, dI)) (ci := 5) (v := .int ((T.1 5))) (C := RX5) (T := TX5) (N := 17) hx hb hts in_X5_wantedByAll_X5 hown hK hP 0 rfl rfl 5 (by decide) (hts (.fieldLink RX5 58 "BackLoans$Town" "loans" "I") (by decide +kernel)) (fun _ h9 => h9) rfl dX5_wantedByAll_6 ?_
  refine lv_icmp_ge (tgt := 26) hx hb dX5_wantedByAll_9 (by decide) (fun c1 => ?_) (fun c1 => ?_)
  · replace hf := it_t c1 hf
    refine lv_iload_n hx hb dX5_wantedByAll_26 rfl (lv_at hl 1 rfl) ?_
    exact hR _ _ _ dX5_wantedByAll_27 hf
  · replace hf := it_f c1 hf
    refine lv_iload_n hx hb dX5_wantedByAll_12 rfl (lv_at hl 1 rfl) ?_
    refine lv_aload_n hx hb dX5_wantedByAll_13 rfl (lv_at hl 0 rfl) ?_
    refine lv_iload_n hx hb dX5_wantedByAll_14 rfl (lv_at hl 2 rfl) ?_
    obtain ⟨r15, hr15, hf⟩ := bn_e hf
    have hPc := hP.sub (ws' := (wT cs a T)) [0, 1, 2, 3, 4, 5, 6, 7, 8, 9, 10] rfl
    refine vp_callSi (W.runV (As := [.int (x2)]) (rest := [.int (x1)]) C (c_X5_wantOf l dC dI cs a T x2 r15 hr15) (cwV 1 hts gX5_wantedByAll_X5_wantOf rfl rfl rfl (by decide +kernel) ⟨Nat.le_of_ble_eq_true rfl, Nat.le_of_ble_eq_true rfl⟩) ⟨(fun a U g mk q => ⟨q.1, q.2.1, GE.calling q.2.2⟩), va_recv hK hPc (ci := 5) (q0 := 0) rfl rfl, (fun U hU hW => ⟨rfl, by rw [hU]; exact hPc, GE.warm hW G⟩)⟩ rfl rfl hl.1 rfl (lv_room (Nat.le_of_ble_eq_true rfl)) dX5_wantedByAll_15 ⟨Nat.le_of_ble_eq_true rfl, Nat.le_of_ble_eq_true rfl⟩) (fun qr15 hqr15 => ?_)
    obtain rfl := hqr15.symm
    refine lv_iadd hx hb dX5_wantedByAll_18 ?_
    refine lv_topi (fun x1_19 ex1_19 => ?_)
    replace hf := lett_s ex1_19 hf
    refine lv_istore_n (lv' := [(1, .int (x1_19)), (0, .ref (a 0)), (2, .int (x2))]) hx hb dX5_wantedByAll_19 rfl hl (by decide) rfl (fun ls hl => ?_)
    obtain ⟨x2_20, ex2_20⟩ : ∃ y : Int32, y = (x2 + 1) := ⟨_, rfl⟩
    replace hf := lett_s ex2_20 hf
    refine lv_iinc (v := x2_20) (lv' := [(2, .int (x2_20)), (1, .int (x1_19)), (0, .ref (a 0))]) hx hb dX5_wantedByAll_20 hl (k := 2) rfl (by rw [ex2_20]; rfl) (by decide) rfl (fun ls hl => ?_)
    refine lv_goto (tgt := 4) hx hb dX5_wantedByAll_23 (by decide) ?_
    exact hK4 x1_19 x2_20 _ (lv_sub hl [2, 1, 0] rfl) hf
def l_X5_wantedByAll_4 (T : Tw)  (n : Nat) (x1 : Int32) (x2 : Int32) : Option Int32 := itr (fun (k : Int32 × Int32 → Option Int32) (z : Int32 × Int32) => f_X5_wantedByAll_4 z.1 z.2 T (fun x1 x2 => k (x1, x2))) n (x1, x2)
set_option maxHeartbeats 4000000 in
set_option maxRecDepth 100000 in
theorem w_X5_wantedByAll_4 {p : Program} {l : Launch} {e : Env} {s : State} {m : MethodId} {args : Array Value} {below : List Frame} {meth : Method} {c : Code} {Q : State → Prop} {dC : Nat → ClassId} {dI : Nat → Nat → Nat} {cs : Nat → ClassId} {a : Nat → Nat} {res : Int32} (C : CallFix p m c cX5_wantedByAll 3 s args wsX5_wantedByAll RX5) (G : GE dC dI cs s) (hR : RPi p l e ({ frames := 3, cells := 0, slots := 0, locals := 64 }) s m args below meth c cX5_wantedByAll Q res) {T : Tw} (hP : va_P (dC, dI) vwCl (wT cs a T) s.heap)  (_ : Tw)   : ∀ (n : Nat) (x1 : Int32) (x2 : Int32) (ls : Array Slot), lv_has ls 3 [(0, .ref (a 0)), (1, .int (x1)), (2, .int (x2))] → l_X5_wantedByAll_4 T n x1 x2 = some res → W p l e ({ frames := 3, cells := 0, slots := 0, locals := 64 }) s m args below meth c s.heap [] 0 0 Q (F0 m 4 ls []) := by
  intro n
  induction n with
  | zero => intro x1 x2 ls hl hf; exact absurd hf (by simp [l_X5_wantedByAll_4, itr])
  | succ n ih => intro x1 x2 ls hl hf; exact b_X5_wantedByAll_4 C G hR hP x1 x2 T (K4 := fun x1 x2 => l_X5_wantedByAll_4 T n x1 x2) (fun x1 x2 ls hl hf => ih x1 x2 ls hl hf) ls hl hf
def f_X5_wantedByAll  (T : Tw) : Option Int32 :=
  lett (0 : Int32) fun x1_1 =>
  lett (0 : Int32) fun x2_3 =>
  l_X5_wantedByAll_4 T FU x1_1 x2_3
set_option maxHeartbeats 4000000 in
set_option maxRecDepth 100000 in
theorem c_X5_wantedByAll (l : Launch) (dC : Nat → ClassId) (dI : Nat → Nat → Nat) (cs : Nat → ClassId) (a : Nat → Nat) (T : Tw)  (res : Int32) (hf : f_X5_wantedByAll T = some res) : Met l yX5_wantedByAll wsX5_wantedByAll ({ frames := 3, cells := 0, slots := 0, locals := 64 }) (va_Pc [.ref (a 0)] (fun U => va_P (dC, dI) vwCl (wT cs a T) U.heap ∧ GE dC dI cs U)) (vp_Si (fun r => r = res)) 0 0 (fun _ => False) := by
  refine Met.ofW (cc := cX5_wantedByAll) (maxL := 3) (ret := (some .int)) (by decide) rfl ?_
  intro p e s m args below meth c s₁ B hml hv
  obtain ⟨rfl, hP, G⟩ := hv
  have hts := atoms_spec (ws := wsX5_wantedByAll) B.pre
  have hown : s.vm.findClass RX5 = some m.cls := findClass_of_methodNamed B.named
  have hlocks := B.notSynchronized
  have hx := B.exec
  have hb := B.bytes
  have hr := B.returns
  have C : CallFix p m c cX5_wantedByAll 3 s _ wsX5_wantedByAll RX5 := ⟨hx, hb, hml, hown, hts⟩
  obtain ⟨hK, hN⟩ := id G
  have hR : RPi p l e ({ frames := 3, cells := 0, slots := 0, locals := 64 }) s m ([.ref (a 0)] : List Value).toArray below meth c cX5_wantedByAll (MQ below (vp_Si (fun r => r = res)) ([.ref (a 0)] : List Value).toArray s 0 0 (fun _ => False)) res := fun pc ls r dd h => W.iret hx hb hr (fun t ht hW => ⟨r, rfl, Option.some.inj h, ht⟩) (fun q hq => by cases hq) dd
  have hl := lv_entry ([.ref (a 0)]) (n := 3) (Nat.le_of_ble_eq_true rfl)
  rw [lg_entry_eq]
  generalize (lg_sl ([.ref (a 0)]) ++ List.replicate (3 - (lg_sl ([.ref (a 0)])).length) Slot.unset).toArray = ls at hl ⊢
  have hl : lv_has ls 3 [(0, .ref (a 0))] := hl
  unfold f_X5_wantedByAll at hf
  refine lv_iconst (v := 0) hx hb dX5_wantedByAll_0 (by decide) ?_
  refine lv_topi (fun x1_1 ex1_1 => ?_)
  replace hf := lett_s ex1_1 hf
  refine lv_istore_n (lv' := [(1, .int (x1_1)), (0, .ref (a 0))]) hx hb dX5_wantedByAll_1 rfl hl (by decide) rfl (fun ls hl => ?_)
  refine lv_iconst (v := 0) hx hb dX5_wantedByAll_2 (by decide) ?_
  refine lv_topi (fun x2_3 ex2_3 => ?_)
  replace hf := lett_s ex2_3 hf
  refine lv_istore_n (lv' := [(2, .int (x2_3)), (1, .int (x1_1)), (0, .ref (a 0))]) hx hb dX5_wantedByAll_3 rfl hl (by decide) rfl (fun ls hl => ?_)
  exact w_X5_wantedByAll_4 C G hR hP T FU x1_1 x2_3 _ (lv_sub hl [2, 1, 0] rfl) hf

theorem in_X5_leftInOrder_X5 : ∀ w ∈ wsX50, w ∈ wsX5_leftInOrder := by decide +kernel
def f_X5_leftInOrder_32 (x1 : Int32) (x2 : Int32) (T : Tw) (K7 : Int32 → Int32 → Option Int32) : Option Int32 :=
  lett (x2 + 1) fun x2_32 =>
  K7 x1 x2_32
set_option maxHeartbeats 4000000 in
set_option maxRecDepth 100000 in
theorem b_X5_leftInOrder_32 {p : Program} {l : Launch} {e : Env} {s : State} {m : MethodId} {args : Array Value} {below : List Frame} {meth : Method} {c : Code} {Q : State → Prop} {dC : Nat → ClassId} {dI : Nat → Nat → Nat} {cs : Nat → ClassId} {a : Nat → Nat} {res : Int32} (C : CallFix p m c cX5_leftInOrder 3 s args wsX5_leftInOrder RX5) (G : GE dC dI cs s) (hR : RPi p l e ({ frames := 3, cells := 0, slots := 0, locals := 64 }) s m args below meth c cX5_leftInOrder Q res) {T : Tw} (hP : va_P (dC, dI) vwCl (wT cs a T) s.heap) (x1 : Int32) (x2 : Int32) (_ : Tw) {K7 : Int32 → Int32 → Option Int32} (hK7 : ∀ (x1 : Int32) (x2 : Int32) (ls : Array Slot), lv_has ls 3 [(0, .ref (a 0)), (1, .int (x1)), (2, .int (x2))] → K7 x1 x2 = some res → W p l e ({ frames := 3, cells := 0, slots := 0, locals := 64 }) s m args below meth c s.heap [] 0 0 Q (F0 m 7 ls [])) (ls : Array Slot) (hl : lv_has ls 3 [(0, .ref (a 0)), (1, .int (x1)), (2, .int (x2))]) (hf : f_X5_leftInOrder_32 x1 x2 T K7 = some res) : W p l e ({ frames := 3, cells := 0, slots := 0, locals := 64 }) s m args below meth c s.heap [] 0 0 Q (F0 m 32 ls []) := by
  obtain ⟨hx, hb, hml, hown, hts⟩ := id C
  obtain ⟨hK, hN⟩ := id G
  unfold f_X5_leftInOrder_32 at hf
  obtain ⟨x2_32, ex2_32⟩ : ∃ y : Int32, y = (x2 + 1) := ⟨_, rfl⟩
  replace hf := lett_s ex2_32 hf
  refine lv_iinc (v := x2_32) (lv' := [(2, .int (x2_32)), (0, .ref (a 0)), (1, .int (x1))]) hx hb dX5_leftInOrder_32 hl (k := 2) rfl (by rw [ex2_32]; rfl) (by decide) rfl (fun ls hl => ?_)
  refine lv_goto (tgt := 7) hx hb dX5_leftInOrder_35 (by decide) ?_
  exact hK7 x1 x2_32 _ (lv_sub hl [1, 2, 0] rfl) hf
def f_X5_leftInOrder_7 (x1 : Int32) (x2 : Int32) (T : Tw) (K7 : Int32 → Int32 → Option Int32) : Option Int32 :=
  if (T.1 5) ≤ x2 then (
    some x1
  ) else (
    bn (f_X5_wantOf x2 T) fun r17 =>
    if x1 < r17 then (
      f_X5_leftInOrder_32 x1 x2 T K7
    ) else (
      bn (f_X5_wantOf x2 T) fun r27 =>
      lett (x1 - r27) fun x1_31 =>
      f_X5_leftInOrder_32 x1_31 x2 T K7
    )
  )
set_option maxHeartbeats 4000000 in
set_option maxRecDepth 100000 in
theorem b_X5_leftInOrder_7 {p : Program} {l : Launch} {e : Env} {s : State} {m : MethodId} {args : Array Value} {below : List Frame} {meth : Method} {c : Code} {Q : State → Prop} {dC : Nat → ClassId} {dI : Nat → Nat → Nat} {cs : Nat → ClassId} {a : Nat → Nat} {res : Int32} (C : CallFix p m c cX5_leftInOrder 3 s args wsX5_leftInOrder RX5) (G : GE dC dI cs s) (hR : RPi p l e ({ frames := 3, cells := 0, slots := 0, locals := 64 }) s m args below meth c cX5_leftInOrder Q res) {T : Tw} (hP : va_P (dC, dI) vwCl (wT cs a T) s.heap) (x1 : Int32) (x2 : Int32) (_ : Tw) {K7 : Int32 → Int32 → Option Int32} (hK7 : ∀ (x1 : Int32) (x2 : Int32) (ls : Array Slot), lv_has ls 3 [(0, .ref (a 0)), (1, .int (x1)), (2, .int (x2))] → K7 x1 x2 = some res → W p l e ({ frames := 3, cells := 0, slots := 0, locals := 64 }) s m args below meth c s.heap [] 0 0 Q (F0 m 7 ls [])) (ls : Array Slot) (hl : lv_has ls 3 [(0, .ref (a 0)), (1, .int (x1)), (2, .int (x2))]) (hf : f_X5_leftInOrder_7 x1 x2 T K7 = some res) : W p l e ({ frames := 3, cells := 0, slots := 0, locals := 64 }) s m args below meth c s.heap [] 0 0 Q (F0 m 7 ls []) := by
  obtain ⟨hx, hb, hml, hown, hts⟩ := id C
  obtain ⟨hK, hN⟩ := id G
  unfold f_X5_leftInOrder_7 at hf
  refine lv_iload_n hx hb dX5_leftInOrder_7 rfl (lv_at hl 2 rfl) ?_
  refine lv_aload_n hx hb dX5_leftInOrder_8 rfl (lv_at hl 0 rfl) ?_
  refine va_get (D := (dC, dI)) (ci := 5) (v := .int ((T.1 5))) (C := RX5) (T := TX5) (N := 17) hx hb hts in_X5_leftInOrder_X5 hown hK hP 0 rfl rfl 5 (by decide) (hts (.fieldLink RX5 58 "BackLoans$Town" "loans" "I") (by decide +kernel)) (fun _ h9 => h9) rfl dX5_leftInOrder_9 ?_
  refine lv_icmp_ge (tgt := 38) hx hb dX5_leftInOrder_12 (by decide) (fun c1 => ?_) (fun c1 => ?_)
  · replace hf := it_t c1 hf
    refine lv_iload_n hx hb dX5_leftInOrder_38 rfl (lv_at hl 1 rfl) ?_
    exact hR _ _ _ dX5_leftInOrder_39 hf
  · replace hf := it_f c1 hf
    refine lv_aload_n hx hb dX5_leftInOrder_15 rfl (lv_at hl 0 rfl) ?_
    refine lv_iload_n hx hb dX5_leftInOrder_16 rfl (lv_at hl 2 rfl) ?_
    obtain ⟨r17, hr17, hf⟩ := bn_e hf
    have hPc := hP.sub (ws' := (wT cs a T)) [0, 1, 2, 3, 4, 5, 6, 7, 8, 9, 10] rfl
    refine vp_callSi (W.runV (As := [.int (x2)]) (rest := []) C (c_X5_wantOf l dC dI cs a T x2 r17 hr17) (cwV 1 hts gX5_leftInOrder_X5_wantOf rfl rfl rfl (by decide +kernel) ⟨Nat.le_of_ble_eq_true rfl, Nat.le_of_ble_eq_true rfl⟩) ⟨(fun a U g mk q => ⟨q.1, q.2.1, GE.calling q.2.2⟩), va_recv hK hPc (ci := 5) (q0 := 0) rfl rfl, (fun U hU hW => ⟨rfl, by rw [hU]; exact hPc, GE.warm hW G⟩)⟩ rfl rfl hl.1 rfl (lv_room (Nat.le_of_ble_eq_true rfl)) dX5_leftInOrder_17 ⟨Nat.le_of_ble_eq_true rfl, Nat.le_of_ble_eq_true rfl⟩) (fun qr17 hqr17 => ?_)
    obtain rfl := hqr17.symm
    refine lv_iload_n hx hb dX5_leftInOrder_20 rfl (lv_at hl 1 rfl) ?_
    refine lv_icmp_gt (tgt := 32) hx hb dX5_leftInOrder_21 (by decide) (fun c2 => ?_) (fun c2 => ?_)
    · replace hf := it_t c2 hf
      exact b_X5_leftInOrder_32 C G hR hP x1 x2 T hK7 _ (lv_sub hl [0, 1, 2] rfl) hf
    · replace hf := it_f c2 hf
      refine lv_iload_n hx hb dX5_leftInOrder_24 rfl (lv_at hl 1 rfl) ?_
      refine lv_aload_n hx hb dX5_leftInOrder_25 rfl (lv_at hl 0 rfl) ?_
      refine lv_iload_n hx hb dX5_leftInOrder_26 rfl (lv_at hl 2 rfl) ?_
      obtain ⟨r27, hr27, hf⟩ := bn_e hf
      have hPc := hP.sub (ws' := (wT cs a T)) [0, 1, 2, 3, 4, 5, 6, 7, 8, 9, 10] rfl
      refine vp_callSi (W.runV (As := [.int (x2)]) (rest := [.int (x1)]) C (c_X5_wantOf l dC dI cs a T x2 r27 hr27) (cwV 1 hts gX5_leftInOrder_X5_wantOf rfl rfl rfl (by decide +kernel) ⟨Nat.le_of_ble_eq_true rfl, Nat.le_of_ble_eq_true rfl⟩) ⟨(fun a U g mk q => ⟨q.1, q.2.1, GE.calling q.2.2⟩), va_recv hK hPc (ci := 5) (q0 := 0) rfl rfl, (fun U hU hW => ⟨rfl, by rw [hU]; exact hPc, GE.warm hW G⟩)⟩ rfl rfl hl.1 rfl (lv_room (Nat.le_of_ble_eq_true rfl)) dX5_leftInOrder_27 ⟨Nat.le_of_ble_eq_true rfl, Nat.le_of_ble_eq_true rfl⟩) (fun qr27 hqr27 => ?_)
      obtain rfl := hqr27.symm
      refine lv_isub hx hb dX5_leftInOrder_30 ?_
      refine lv_topi (fun x1_31 ex1_31 => ?_)
      replace hf := lett_s ex1_31 hf
      refine lv_istore_n (lv' := [(1, .int (x1_31)), (0, .ref (a 0)), (2, .int (x2))]) hx hb dX5_leftInOrder_31 rfl hl (by decide) rfl (fun ls hl => ?_)
      exact b_X5_leftInOrder_32 C G hR hP x1_31 x2 T hK7 _ (lv_sub hl [1, 0, 2] rfl) hf
def l_X5_leftInOrder_7 (T : Tw)  (n : Nat) (x1 : Int32) (x2 : Int32) : Option Int32 := itr (fun (k : Int32 × Int32 → Option Int32) (z : Int32 × Int32) => f_X5_leftInOrder_7 z.1 z.2 T (fun x1 x2 => k (x1, x2))) n (x1, x2)
set_option maxHeartbeats 4000000 in
set_option maxRecDepth 100000 in
theorem w_X5_leftInOrder_7 {p : Program} {l : Launch} {e : Env} {s : State} {m : MethodId} {args : Array Value} {below : List Frame} {meth : Method} {c : Code} {Q : State → Prop} {dC : Nat → ClassId} {dI : Nat → Nat → Nat} {cs : Nat → ClassId} {a : Nat → Nat} {res : Int32} (C : CallFix p m c cX5_leftInOrder 3 s args wsX5_leftInOrder RX5) (G : GE dC dI cs s) (hR : RPi p l e ({ frames := 3, cells := 0, slots := 0, locals := 64 }) s m args below meth c cX5_leftInOrder Q res) {T : Tw} (hP : va_P (dC, dI) vwCl (wT cs a T) s.heap)  (_ : Tw)   : ∀ (n : Nat) (x1 : Int32) (x2 : Int32) (ls : Array Slot), lv_has ls 3 [(0, .ref (a 0)), (1, .int (x1)), (2, .int (x2))] → l_X5_leftInOrder_7 T n x1 x2 = some res → W p l e ({ frames := 3, cells := 0, slots := 0, locals := 64 }) s m args below meth c s.heap [] 0 0 Q (F0 m 7 ls []) := by
  intro n
  induction n with
  | zero => intro x1 x2 ls hl hf; exact absurd hf (by simp [l_X5_leftInOrder_7, itr])
  | succ n ih => intro x1 x2 ls hl hf; exact b_X5_leftInOrder_7 C G hR hP x1 x2 T (K7 := fun x1 x2 => l_X5_leftInOrder_7 T n x1 x2) (fun x1 x2 ls hl hf => ih x1 x2 ls hl hf) ls hl hf
def f_X5_leftInOrder  (T : Tw) : Option Int32 :=
  lett (0 : Int32) fun x2_6 =>
  l_X5_leftInOrder_7 T FU (T.1 0) x2_6
set_option maxHeartbeats 4000000 in
set_option maxRecDepth 100000 in
theorem c_X5_leftInOrder (l : Launch) (dC : Nat → ClassId) (dI : Nat → Nat → Nat) (cs : Nat → ClassId) (a : Nat → Nat) (T : Tw)  (res : Int32) (hf : f_X5_leftInOrder T = some res) : Met l yX5_leftInOrder wsX5_leftInOrder ({ frames := 3, cells := 0, slots := 0, locals := 64 }) (va_Pc [.ref (a 0)] (fun U => va_P (dC, dI) vwCl (wT cs a T) U.heap ∧ GE dC dI cs U)) (vp_Si (fun r => r = res)) 0 0 (fun _ => False) := by
  refine Met.ofW (cc := cX5_leftInOrder) (maxL := 3) (ret := (some .int)) (by decide) rfl ?_
  intro p e s m args below meth c s₁ B hml hv
  obtain ⟨rfl, hP, G⟩ := hv
  have hts := atoms_spec (ws := wsX5_leftInOrder) B.pre
  have hown : s.vm.findClass RX5 = some m.cls := findClass_of_methodNamed B.named
  have hlocks := B.notSynchronized
  have hx := B.exec
  have hb := B.bytes
  have hr := B.returns
  have C : CallFix p m c cX5_leftInOrder 3 s _ wsX5_leftInOrder RX5 := ⟨hx, hb, hml, hown, hts⟩
  obtain ⟨hK, hN⟩ := id G
  have hR : RPi p l e ({ frames := 3, cells := 0, slots := 0, locals := 64 }) s m ([.ref (a 0)] : List Value).toArray below meth c cX5_leftInOrder (MQ below (vp_Si (fun r => r = res)) ([.ref (a 0)] : List Value).toArray s 0 0 (fun _ => False)) res := fun pc ls r dd h => W.iret hx hb hr (fun t ht hW => ⟨r, rfl, Option.some.inj h, ht⟩) (fun q hq => by cases hq) dd
  have hl := lv_entry ([.ref (a 0)]) (n := 3) (Nat.le_of_ble_eq_true rfl)
  rw [lg_entry_eq]
  generalize (lg_sl ([.ref (a 0)]) ++ List.replicate (3 - (lg_sl ([.ref (a 0)])).length) Slot.unset).toArray = ls at hl ⊢
  have hl : lv_has ls 3 [(0, .ref (a 0))] := hl
  unfold f_X5_leftInOrder at hf
  refine lv_aload_n hx hb dX5_leftInOrder_0 rfl (lv_at hl 0 rfl) ?_
  refine va_get (D := (dC, dI)) (ci := 5) (v := .int ((T.1 0))) (C := RX5) (T := TX5) (N := 17) hx hb hts in_X5_leftInOrder_X5 hown hK hP 0 rfl rfl 0 (by decide) (hts (.fieldLink RX5 42 "BackLoans$Town" "chest" "I") (by decide +kernel)) (fun _ h9 => h9) rfl dX5_leftInOrder_1 ?_
  refine lv_istore_n (lv' := [(1, .int ((T.1 0))), (0, .ref (a 0))]) hx hb dX5_leftInOrder_4 rfl hl (by decide) rfl (fun ls hl => ?_)
  refine lv_iconst (v := 0) hx hb dX5_leftInOrder_5 (by decide) ?_
  refine lv_topi (fun x2_6 ex2_6 => ?_)
  replace hf := lett_s ex2_6 hf
  refine lv_istore_n (lv' := [(2, .int (x2_6)), (1, .int ((T.1 0))), (0, .ref (a 0))]) hx hb dX5_leftInOrder_6 rfl hl (by decide) rfl (fun ls hl => ?_)
  exact w_X5_leftInOrder_7 C G hR hP T FU (T.1 0) x2_6 _ (lv_sub hl [2, 1, 0] rfl) hf

theorem in_X5_paidInOrder_X5 : ∀ w ∈ wsX50, w ∈ wsX5_paidInOrder := by decide +kernel
def f_X5_paidInOrder_43 (x1 : Int32) (x2 : Int32) (x3 : Int32) (T : Tw) (K9 : Int32 → Int32 → Int32 → Option Int32) : Option Int32 :=
  lett (x3 + 1) fun x3_43 =>
  K9 x1 x2 x3_43
set_option maxHeartbeats 4000000 in
set_option maxRecDepth 100000 in
theorem b_X5_paidInOrder_43 {p : Program} {l : Launch} {e : Env} {s : State} {m : MethodId} {args : Array Value} {below : List Frame} {meth : Method} {c : Code} {Q : State → Prop} {dC : Nat → ClassId} {dI : Nat → Nat → Nat} {cs : Nat → ClassId} {a : Nat → Nat} {res : Int32} (C : CallFix p m c cX5_paidInOrder 5 s args wsX5_paidInOrder RX5) (G : GE dC dI cs s) (hR : RPi p l e ({ frames := 3, cells := 0, slots := 0, locals := 64 }) s m args below meth c cX5_paidInOrder Q res) {T : Tw} (hP : va_P (dC, dI) vwCl (wT cs a T) s.heap) (x1 : Int32) (x2 : Int32) (x3 : Int32) (_ : Tw) {K9 : Int32 → Int32 → Int32 → Option Int32} (hK9 : ∀ (x1 : Int32) (x2 : Int32) (x3 : Int32) (ls : Array Slot), lv_has ls 5 [(0, .ref (a 0)), (1, .int (x1)), (2, .int (x2)), (3, .int (x3))] → K9 x1 x2 x3 = some res → W p l e ({ frames := 3, cells := 0, slots := 0, locals := 64 }) s m args below meth c s.heap [] 0 0 Q (F0 m 9 ls [])) (ls : Array Slot) (hl : lv_has ls 5 [(0, .ref (a 0)), (1, .int (x1)), (2, .int (x2)), (3, .int (x3))]) (hf : f_X5_paidInOrder_43 x1 x2 x3 T K9 = some res) : W p l e ({ frames := 3, cells := 0, slots := 0, locals := 64 }) s m args below meth c s.heap [] 0 0 Q (F0 m 43 ls []) := by
  obtain ⟨hx, hb, hml, hown, hts⟩ := id C
  obtain ⟨hK, hN⟩ := id G
  unfold f_X5_paidInOrder_43 at hf
  obtain ⟨x3_43, ex3_43⟩ : ∃ y : Int32, y = (x3 + 1) := ⟨_, rfl⟩
  replace hf := lett_s ex3_43 hf
  refine lv_iinc (v := x3_43) (lv' := [(3, .int (x3_43)), (0, .ref (a 0)), (1, .int (x1)), (2, .int (x2))]) hx hb dX5_paidInOrder_43 hl (k := 3) rfl (by rw [ex3_43]; rfl) (by decide) rfl (fun ls hl => ?_)
  refine lv_goto (tgt := 9) hx hb dX5_paidInOrder_46 (by decide) ?_
  exact hK9 x1 x2 x3_43 _ (lv_sub hl [1, 2, 3, 0] rfl) hf
def f_X5_paidInOrder_9 (x1 : Int32) (x2 : Int32) (x3 : Int32) (T : Tw) (K9 : Int32 → Int32 → Int32 → Option Int32) : Option Int32 :=
  if (T.1 5) ≤ x3 then (
    some x2
  ) else (
    bn (f_X5_wantOf x3 T) fun r19 =>
    if r19 ≤ 0 then (
      f_X5_paidInOrder_43 x1 x2 x3 T K9
    ) else (
      if x1 < r19 then (
        f_X5_paidInOrder_43 x1 x2 x3 T K9
      ) else (
        lett (x1 - r19) fun x1_39 =>
        lett (x2 + 1) fun x2_40 =>
        f_X5_paidInOrder_43 x1_39 x2_40 x3 T K9
      )
    )
  )
set_option maxHeartbeats 4000000 in
set_option maxRecDepth 100000 in
theorem b_X5_paidInOrder_9 {p : Program} {l : Launch} {e : Env} {s : State} {m : MethodId} {args : Array Value} {below : List Frame} {meth : Method} {c : Code} {Q : State → Prop} {dC : Nat → ClassId} {dI : Nat → Nat → Nat} {cs : Nat → ClassId} {a : Nat → Nat} {res : Int32} (C : CallFix p m c cX5_paidInOrder 5 s args wsX5_paidInOrder RX5) (G : GE dC dI cs s) (hR : RPi p l e ({ frames := 3, cells := 0, slots := 0, locals := 64 }) s m args below meth c cX5_paidInOrder Q res) {T : Tw} (hP : va_P (dC, dI) vwCl (wT cs a T) s.heap) (x1 : Int32) (x2 : Int32) (x3 : Int32) (_ : Tw) {K9 : Int32 → Int32 → Int32 → Option Int32} (hK9 : ∀ (x1 : Int32) (x2 : Int32) (x3 : Int32) (ls : Array Slot), lv_has ls 5 [(0, .ref (a 0)), (1, .int (x1)), (2, .int (x2)), (3, .int (x3))] → K9 x1 x2 x3 = some res → W p l e ({ frames := 3, cells := 0, slots := 0, locals := 64 }) s m args below meth c s.heap [] 0 0 Q (F0 m 9 ls [])) (ls : Array Slot) (hl : lv_has ls 5 [(0, .ref (a 0)), (1, .int (x1)), (2, .int (x2)), (3, .int (x3))]) (hf : f_X5_paidInOrder_9 x1 x2 x3 T K9 = some res) : W p l e ({ frames := 3, cells := 0, slots := 0, locals := 64 }) s m args below meth c s.heap [] 0 0 Q (F0 m 9 ls []) := by
  obtain ⟨hx, hb, hml, hown, hts⟩ := id C
  obtain ⟨hK, hN⟩ := id G
  unfold f_X5_paidInOrder_9 at hf
  refine lv_iload_n hx hb dX5_paidInOrder_9 rfl (lv_at hl 3 rfl) ?_
  refine lv_aload_n hx hb dX5_paidInOrder_10 rfl (lv_at hl 0 rfl) ?_
  refine va_get (D := (dC, dI)) (ci := 5) (v := .int ((T.1 5))) (C := RX5) (T := TX5) (N := 17) hx hb hts in_X5_paidInOrder_X5 hown hK hP 0 rfl rfl 5 (by decide) (hts (.fieldLink RX5 58 "BackLoans$Town" "loans" "I") (by decide +kernel)) (fun _ h9 => h9) rfl dX5_paidInOrder_11 ?_
  refine lv_icmp_ge (tgt := 49) hx hb dX5_paidInOrder_14 (by decide) (fun c1 => ?_) (fun c1 => ?_)
  · replace hf := it_t c1 hf
    refine lv_iload_n hx hb dX5_paidInOrder_49 rfl (lv_at hl 2 rfl) ?_
    exact hR _ _ _ dX5_paidInOrder_50 hf
  · replace hf := it_f c1 hf
    refine lv_aload_n hx hb dX5_paidInOrder_17 rfl (lv_at hl 0 rfl) ?_
    refine lv_iload_n hx hb dX5_paidInOrder_18 rfl (lv_at hl 3 rfl) ?_
    obtain ⟨r19, hr19, hf⟩ := bn_e hf
    have hPc := hP.sub (ws' := (wT cs a T)) [0, 1, 2, 3, 4, 5, 6, 7, 8, 9, 10] rfl
    refine vp_callSi (W.runV (As := [.int (x3)]) (rest := []) C (c_X5_wantOf l dC dI cs a T x3 r19 hr19) (cwV 1 hts gX5_paidInOrder_X5_wantOf rfl rfl rfl (by decide +kernel) ⟨Nat.le_of_ble_eq_true rfl, Nat.le_of_ble_eq_true rfl⟩) ⟨(fun a U g mk q => ⟨q.1, q.2.1, GE.calling q.2.2⟩), va_recv hK hPc (ci := 5) (q0 := 0) rfl rfl, (fun U hU hW => ⟨rfl, by rw [hU]; exact hPc, GE.warm hW G⟩)⟩ rfl rfl hl.1 rfl (lv_room (Nat.le_of_ble_eq_true rfl)) dX5_paidInOrder_19 ⟨Nat.le_of_ble_eq_true rfl, Nat.le_of_ble_eq_true rfl⟩) (fun qr19 hqr19 => ?_)
    obtain rfl := hqr19.symm
    refine lv_istore (lv' := [(4, .int (r19)), (0, .ref (a 0)), (1, .int (x1)), (2, .int (x2)), (3, .int (x3))]) hx hb dX5_paidInOrder_22 hl (by decide) rfl (fun ls hl => ?_)
    refine lv_iload hx hb dX5_paidInOrder_24 (lv_at hl 0 rfl) ?_
    refine lv_if_le (tgt := 43) hx hb dX5_paidInOrder_26 (by decide) (fun c2 => ?_) (fun c2 => ?_)
    · replace hf := it_t c2 hf
      exact b_X5_paidInOrder_43 C G hR hP x1 x2 x3 T hK9 _ (lv_sub hl [1, 2, 3, 4] rfl) hf
    · replace hf := it_f c2 hf
      refine lv_iload hx hb dX5_paidInOrder_29 (lv_at hl 0 rfl) ?_
      refine lv_iload_n hx hb dX5_paidInOrder_31 rfl (lv_at hl 2 rfl) ?_
      refine lv_icmp_gt (tgt := 43) hx hb dX5_paidInOrder_32 (by decide) (fun c3 => ?_) (fun c3 => ?_)
      · replace hf := it_t c3 hf
        exact b_X5_paidInOrder_43 C G hR hP x1 x2 x3 T hK9 _ (lv_sub hl [1, 2, 3, 4] rfl) hf
      · replace hf := it_f c3 hf
        refine lv_iload_n hx hb dX5_paidInOrder_35 rfl (lv_at hl 2 rfl) ?_
        refine lv_iload hx hb dX5_paidInOrder_36 (lv_at hl 0 rfl) ?_
        refine lv_isub hx hb dX5_paidInOrder_38 ?_
        refine lv_topi (fun x1_39 ex1_39 => ?_)
        replace hf := lett_s ex1_39 hf
        refine lv_istore_n (lv' := [(1, .int (x1_39)), (4, .int (r19)), (0, .ref (a 0)), (2, .int (x2)), (3, .int (x3))]) hx hb dX5_paidInOrder_39 rfl hl (by decide) rfl (fun ls hl => ?_)
        obtain ⟨x2_40, ex2_40⟩ : ∃ y : Int32, y = (x2 + 1) := ⟨_, rfl⟩
        replace hf := lett_s ex2_40 hf
        refine lv_iinc (v := x2_40) (lv' := [(2, .int (x2_40)), (1, .int (x1_39)), (4, .int (r19)), (0, .ref (a 0)), (3, .int (x3))]) hx hb dX5_paidInOrder_40 hl (k := 3) rfl (by rw [ex2_40]; rfl) (by decide) rfl (fun ls hl => ?_)
        exact b_X5_paidInOrder_43 C G hR hP x1_39 x2_40 x3 T hK9 _ (lv_sub hl [3, 1, 0, 4] rfl) hf
def l_X5_paidInOrder_9 (T : Tw)  (n : Nat) (x1 : Int32) (x2 : Int32) (x3 : Int32) : Option Int32 := itr (fun (k : Int32 × Int32 × Int32 → Option Int32) (z : Int32 × Int32 × Int32) => f_X5_paidInOrder_9 z.1 z.2.1 z.2.2 T (fun x1 x2 x3 => k (x1, x2, x3))) n (x1, x2, x3)
set_option maxHeartbeats 4000000 in
set_option maxRecDepth 100000 in
theorem w_X5_paidInOrder_9 {p : Program} {l : Launch} {e : Env} {s : State} {m : MethodId} {args : Array Value} {below : List Frame} {meth : Method} {c : Code} {Q : State → Prop} {dC : Nat → ClassId} {dI : Nat → Nat → Nat} {cs : Nat → ClassId} {a : Nat → Nat} {res : Int32} (C : CallFix p m c cX5_paidInOrder 5 s args wsX5_paidInOrder RX5) (G : GE dC dI cs s) (hR : RPi p l e ({ frames := 3, cells := 0, slots := 0, locals := 64 }) s m args below meth c cX5_paidInOrder Q res) {T : Tw} (hP : va_P (dC, dI) vwCl (wT cs a T) s.heap)  (_ : Tw)   : ∀ (n : Nat) (x1 : Int32) (x2 : Int32) (x3 : Int32) (ls : Array Slot), lv_has ls 5 [(0, .ref (a 0)), (1, .int (x1)), (2, .int (x2)), (3, .int (x3))] → l_X5_paidInOrder_9 T n x1 x2 x3 = some res → W p l e ({ frames := 3, cells := 0, slots := 0, locals := 64 }) s m args below meth c s.heap [] 0 0 Q (F0 m 9 ls []) := by
  intro n
  induction n with
  | zero => intro x1 x2 x3 ls hl hf; exact absurd hf (by simp [l_X5_paidInOrder_9, itr])
  | succ n ih => intro x1 x2 x3 ls hl hf; exact b_X5_paidInOrder_9 C G hR hP x1 x2 x3 T (K9 := fun x1 x2 x3 => l_X5_paidInOrder_9 T n x1 x2 x3) (fun x1 x2 x3 ls hl hf => ih x1 x2 x3 ls hl hf) ls hl hf
def f_X5_paidInOrder  (T : Tw) : Option Int32 :=
  lett (0 : Int32) fun x2_6 =>
  lett (0 : Int32) fun x3_8 =>
  l_X5_paidInOrder_9 T FU (T.1 0) x2_6 x3_8
set_option maxHeartbeats 4000000 in
set_option maxRecDepth 100000 in
theorem c_X5_paidInOrder (l : Launch) (dC : Nat → ClassId) (dI : Nat → Nat → Nat) (cs : Nat → ClassId) (a : Nat → Nat) (T : Tw)  (res : Int32) (hf : f_X5_paidInOrder T = some res) : Met l yX5_paidInOrder wsX5_paidInOrder ({ frames := 3, cells := 0, slots := 0, locals := 64 }) (va_Pc [.ref (a 0)] (fun U => va_P (dC, dI) vwCl (wT cs a T) U.heap ∧ GE dC dI cs U)) (vp_Si (fun r => r = res)) 0 0 (fun _ => False) := by
  refine Met.ofW (cc := cX5_paidInOrder) (maxL := 5) (ret := (some .int)) (by decide) rfl ?_
  intro p e s m args below meth c s₁ B hml hv
  obtain ⟨rfl, hP, G⟩ := hv
  have hts := atoms_spec (ws := wsX5_paidInOrder) B.pre
  have hown : s.vm.findClass RX5 = some m.cls := findClass_of_methodNamed B.named
  have hlocks := B.notSynchronized
  have hx := B.exec
  have hb := B.bytes
  have hr := B.returns
  have C : CallFix p m c cX5_paidInOrder 5 s _ wsX5_paidInOrder RX5 := ⟨hx, hb, hml, hown, hts⟩
  obtain ⟨hK, hN⟩ := id G
  have hR : RPi p l e ({ frames := 3, cells := 0, slots := 0, locals := 64 }) s m ([.ref (a 0)] : List Value).toArray below meth c cX5_paidInOrder (MQ below (vp_Si (fun r => r = res)) ([.ref (a 0)] : List Value).toArray s 0 0 (fun _ => False)) res := fun pc ls r dd h => W.iret hx hb hr (fun t ht hW => ⟨r, rfl, Option.some.inj h, ht⟩) (fun q hq => by cases hq) dd
  have hl := lv_entry ([.ref (a 0)]) (n := 5) (Nat.le_of_ble_eq_true rfl)
  rw [lg_entry_eq]
  generalize (lg_sl ([.ref (a 0)]) ++ List.replicate (5 - (lg_sl ([.ref (a 0)])).length) Slot.unset).toArray = ls at hl ⊢
  have hl : lv_has ls 5 [(0, .ref (a 0))] := hl
  unfold f_X5_paidInOrder at hf
  refine lv_aload_n hx hb dX5_paidInOrder_0 rfl (lv_at hl 0 rfl) ?_
  refine va_get (D := (dC, dI)) (ci := 5) (v := .int ((T.1 0))) (C := RX5) (T := TX5) (N := 17) hx hb hts in_X5_paidInOrder_X5 hown hK hP 0 rfl rfl 0 (by decide) (hts (.fieldLink RX5 42 "BackLoans$Town" "chest" "I") (by decide +kernel)) (fun _ h9 => h9) rfl dX5_paidInOrder_1 ?_
  refine lv_istore_n (lv' := [(1, .int ((T.1 0))), (0, .ref (a 0))]) hx hb dX5_paidInOrder_4 rfl hl (by decide) rfl (fun ls hl => ?_)
  refine lv_iconst (v := 0) hx hb dX5_paidInOrder_5 (by decide) ?_
  refine lv_topi (fun x2_6 ex2_6 => ?_)
  replace hf := lett_s ex2_6 hf
  refine lv_istore_n (lv' := [(2, .int (x2_6)), (1, .int ((T.1 0))), (0, .ref (a 0))]) hx hb dX5_paidInOrder_6 rfl hl (by decide) rfl (fun ls hl => ?_)
  refine lv_iconst (v := 0) hx hb dX5_paidInOrder_7 (by decide) ?_
  refine lv_topi (fun x3_8 ex3_8 => ?_)
  replace hf := lett_s ex3_8 hf
  refine lv_istore_n (lv' := [(3, .int (x3_8)), (2, .int (x2_6)), (1, .int ((T.1 0))), (0, .ref (a 0))]) hx hb dX5_paidInOrder_8 rfl hl (by decide) rfl (fun ls hl => ?_)
  exact w_X5_paidInOrder_9 C G hR hP T FU (T.1 0) x2_6 x3_8 _ (lv_sub hl [3, 2, 1, 0] rfl) hf

theorem in_X5_leastWant_X5 : ∀ w ∈ wsX50, w ∈ wsX5_leastWant := by decide +kernel
def f_X5_leastWant_60 (x1 : Int32) (x2 : Int32) (x3 : Int32) (T : Tw) (K4 : Int32 → Int32 → Option Int32) : Option Int32 :=
  lett (x3 + 1) fun x3_60 =>
  K4 x2 x3_60
set_option maxHeartbeats 4000000 in
set_option maxRecDepth 100000 in
theorem b_X5_leastWant_60 {p : Program} {l : Launch} {e : Env} {s : State} {m : MethodId} {args : Array Value} {below : List Frame} {meth : Method} {c : Code} {Q : State → Prop} {dC : Nat → ClassId} {dI : Nat → Nat → Nat} {cs : Nat → ClassId} {a : Nat → Nat} {res : Int32} (C : CallFix p m c cX5_leastWant 5 s args wsX5_leastWant RX5) (G : GE dC dI cs s) (hR : RPi p l e ({ frames := 3, cells := 0, slots := 0, locals := 64 }) s m args below meth c cX5_leastWant Q res) {T : Tw} (hP : va_P (dC, dI) vwCl (wT cs a T) s.heap) (x1 : Int32) (x2 : Int32) (x3 : Int32) (_ : Tw) {K4 : Int32 → Int32 → Option Int32} (hK4 : ∀ (x2 : Int32) (x3 : Int32) (ls : Array Slot), lv_has ls 5 [(0, .ref (a 0)), (1, .int (x1)), (2, .int (x2)), (3, .int (x3))] → K4 x2 x3 = some res → W p l e ({ frames := 3, cells := 0, slots := 0, locals := 64 }) s m args below meth c s.heap [] 0 0 Q (F0 m 4 ls [])) (ls : Array Slot) (hl : lv_has ls 5 [(0, .ref (a 0)), (1, .int (x1)), (2, .int (x2)), (3, .int (x3))]) (hf : f_X5_leastWant_60 x1 x2 x3 T K4 = some res) : W p l e ({ frames := 3, cells := 0, slots := 0, locals := 64 }) s m args below meth c s.heap [] 0 0 Q (F0 m 60 ls []) := by
  obtain ⟨hx, hb, hml, hown, hts⟩ := id C
  obtain ⟨hK, hN⟩ := id G
  unfold f_X5_leastWant_60 at hf
  obtain ⟨x3_60, ex3_60⟩ : ∃ y : Int32, y = (x3 + 1) := ⟨_, rfl⟩
  replace hf := lett_s ex3_60 hf
  refine lv_iinc (v := x3_60) (lv' := [(3, .int (x3_60)), (0, .ref (a 0)), (1, .int (x1)), (2, .int (x2))]) hx hb dX5_leastWant_60 hl (k := 3) rfl (by rw [ex3_60]; rfl) (by decide) rfl (fun ls hl => ?_)
  refine lv_goto (tgt := 4) hx hb dX5_leastWant_63 (by decide) ?_
  exact hK4 x2 x3_60 _ (lv_sub hl [1, 2, 3, 0] rfl) hf
def f_X5_leastWant_58 (x1 : Int32) (x3 : Int32) (T : Tw) (K4 : Int32 → Int32 → Option Int32) : Option Int32 :=
  f_X5_leastWant_60 x1 x3 x3 T K4
set_option maxHeartbeats 4000000 in
set_option maxRecDepth 100000 in
theorem b_X5_leastWant_58 {p : Program} {l : Launch} {e : Env} {s : State} {m : MethodId} {args : Array Value} {below : List Frame} {meth : Method} {c : Code} {Q : State → Prop} {dC : Nat → ClassId} {dI : Nat → Nat → Nat} {cs : Nat → ClassId} {a : Nat → Nat} {res : Int32} (C : CallFix p m c cX5_leastWant 5 s args wsX5_leastWant RX5) (G : GE dC dI cs s) (hR : RPi p l e ({ frames := 3, cells := 0, slots := 0, locals := 64 }) s m args below meth c cX5_leastWant Q res) {T : Tw} (hP : va_P (dC, dI) vwCl (wT cs a T) s.heap) (x1 : Int32) (x3 : Int32) (_ : Tw) {K4 : Int32 → Int32 → Option Int32} (hK4 : ∀ (x2 : Int32) (x3 : Int32) (ls : Array Slot), lv_has ls 5 [(0, .ref (a 0)), (1, .int (x1)), (2, .int (x2)), (3, .int (x3))] → K4 x2 x3 = some res → W p l e ({ frames := 3, cells := 0, slots := 0, locals := 64 }) s m args below meth c s.heap [] 0 0 Q (F0 m 4 ls [])) (ls : Array Slot) (hl : lv_has ls 5 [(0, .ref (a 0)), (1, .int (x1)), (3, .int (x3))]) (hf : f_X5_leastWant_58 x1 x3 T K4 = some res) : W p l e ({ frames := 3, cells := 0, slots := 0, locals := 64 }) s m args below meth c s.heap [] 0 0 Q (F0 m 58 ls []) := by
  obtain ⟨hx, hb, hml, hown, hts⟩ := id C
  obtain ⟨hK, hN⟩ := id G
  unfold f_X5_leastWant_58 at hf
  refine lv_iload_n hx hb dX5_leastWant_58 rfl (lv_at hl 2 rfl) ?_
  refine lv_istore_n (lv' := [(2, .int (x3)), (0, .ref (a 0)), (1, .int (x1)), (3, .int (x3))]) hx hb dX5_leastWant_59 rfl hl (by decide) rfl (fun ls hl => ?_)
  exact b_X5_leastWant_60 C G hR hP x1 x3 x3 T hK4 _ (lv_sub hl [1, 2, 0, 3] rfl) hf
def f_X5_leastWant_33 (x1 : Int32) (x2 : Int32) (x3 : Int32) (s0 : Int32) (T : Tw) (K4 : Int32 → Int32 → Option Int32) : Option Int32 :=
  if s0 = 0 then (
    f_X5_leastWant_60 x1 x2 x3 T K4
  ) else (
    if x2 = (-1 : Int32) then (
      f_X5_leastWant_58 x1 x3 T K4
    ) else (
      bn (f_X5_wantOf x3 T) fun r47 =>
      bn (f_X5_wantOf x2 T) fun r52 =>
      if r52 ≤ r47 then (
        f_X5_leastWant_60 x1 x2 x3 T K4
      ) else (
        f_X5_leastWant_58 x1 x3 T K4
      )
    )
  )
set_option maxHeartbeats 4000000 in
set_option maxRecDepth 100000 in
theorem b_X5_leastWant_33 {p : Program} {l : Launch} {e : Env} {s : State} {m : MethodId} {args : Array Value} {below : List Frame} {meth : Method} {c : Code} {Q : State → Prop} {dC : Nat → ClassId} {dI : Nat → Nat → Nat} {cs : Nat → ClassId} {a : Nat → Nat} {res : Int32} (C : CallFix p m c cX5_leastWant 5 s args wsX5_leastWant RX5) (G : GE dC dI cs s) (hR : RPi p l e ({ frames := 3, cells := 0, slots := 0, locals := 64 }) s m args below meth c cX5_leastWant Q res) {T : Tw} (hP : va_P (dC, dI) vwCl (wT cs a T) s.heap) (x1 : Int32) (x2 : Int32) (x3 : Int32) (s0 : Int32) (_ : Tw) {K4 : Int32 → Int32 → Option Int32} (hK4 : ∀ (x2 : Int32) (x3 : Int32) (ls : Array Slot), lv_has ls 5 [(0, .ref (a 0)), (1, .int (x1)), (2, .int (x2)), (3, .int (x3))] → K4 x2 x3 = some res → W p l e ({ frames := 3, cells := 0, slots := 0, locals := 64 }) s m args below meth c s.heap [] 0 0 Q (F0 m 4 ls [])) (ls : Array Slot) (hl : lv_has ls 5 [(0, .ref (a 0)), (1, .int (x1)), (2, .int (x2)), (3, .int (x3))]) (hf : f_X5_leastWant_33 x1 x2 x3 s0 T K4 = some res) : W p l e ({ frames := 3, cells := 0, slots := 0, locals := 64 }) s m args below meth c s.heap [] 0 0 Q (F0 m 33 ls [.int (s0)]) := by
  obtain ⟨hx, hb, hml, hown, hts⟩ := id C
  obtain ⟨hK, hN⟩ := id G
  unfold f_X5_leastWant_33 at hf
  refine lv_istore (lv' := [(4, .int (s0)), (0, .ref (a 0)), (1, .int (x1)), (2, .int (x2)), (3, .int (x3))]) hx hb dX5_leastWant_33 hl (by decide) rfl (fun ls hl => ?_)
  refine lv_iload hx hb dX5_leastWant_35 (lv_at hl 0 rfl) ?_
  refine lv_if_eq (tgt := 60) hx hb dX5_leastWant_37 (by decide) (fun c1 => ?_) (fun c1 => ?_)
  · replace hf := it_t c1 hf
    exact b_X5_leastWant_60 C G hR hP x1 x2 x3 T hK4 _ (lv_sub hl [1, 2, 3, 4] rfl) hf
  · replace hf := it_f c1 hf
    refine lv_iload_n hx hb dX5_leastWant_40 rfl (lv_at hl 3 rfl) ?_
    refine lv_iconst (v := -1) hx hb dX5_leastWant_41 (by decide) ?_
    refine lv_icmp_eq (tgt := 58) hx hb dX5_leastWant_42 (by decide) (fun c2 => ?_) (fun c2 => ?_)
    · replace hf := it_t c2 hf
      exact b_X5_leastWant_58 C G hR hP x1 x3 T hK4 _ (lv_sub hl [1, 2, 4] rfl) hf
    · replace hf := it_f c2 hf
      refine lv_aload_n hx hb dX5_leastWant_45 rfl (lv_at hl 1 rfl) ?_
      refine lv_iload_n hx hb dX5_leastWant_46 rfl (lv_at hl 4 rfl) ?_
      obtain ⟨r47, hr47, hf⟩ := bn_e hf
      have hPc := hP.sub (ws' := (wT cs a T)) [0, 1, 2, 3, 4, 5, 6, 7, 8, 9, 10] rfl
      refine vp_callSi (W.runV (As := [.int (x3)]) (rest := []) C (c_X5_wantOf l dC dI cs a T x3 r47 hr47) (cwV 1 hts gX5_leastWant_X5_wantOf rfl rfl rfl (by decide +kernel) ⟨Nat.le_of_ble_eq_true rfl, Nat.le_of_ble_eq_true rfl⟩) ⟨(fun a U g mk q => ⟨q.1, q.2.1, GE.calling q.2.2⟩), va_recv hK hPc (ci := 5) (q0 := 0) rfl rfl, (fun U hU hW => ⟨rfl, by rw [hU]; exact hPc, GE.warm hW G⟩)⟩ rfl rfl hl.1 rfl (lv_room (Nat.le_of_ble_eq_true rfl)) dX5_leastWant_47 ⟨Nat.le_of_ble_eq_true rfl, Nat.le_of_ble_eq_true rfl⟩) (fun qr47 hqr47 => ?_)
      obtain rfl := hqr47.symm
      refine lv_aload_n hx hb dX5_leastWant_50 rfl (lv_at hl 1 rfl) ?_
      refine lv_iload_n hx hb dX5_leastWant_51 rfl (lv_at hl 3 rfl) ?_
      obtain ⟨r52, hr52, hf⟩ := bn_e hf
      have hPc := hP.sub (ws' := (wT cs a T)) [0, 1, 2, 3, 4, 5, 6, 7, 8, 9, 10] rfl
      refine vp_callSi (W.runV (As := [.int (x2)]) (rest := [.int (r47)]) C (c_X5_wantOf l dC dI cs a T x2 r52 hr52) (cwV 1 hts gX5_leastWant_X5_wantOf rfl rfl rfl (by decide +kernel) ⟨Nat.le_of_ble_eq_true rfl, Nat.le_of_ble_eq_true rfl⟩) ⟨(fun a U g mk q => ⟨q.1, q.2.1, GE.calling q.2.2⟩), va_recv hK hPc (ci := 5) (q0 := 0) rfl rfl, (fun U hU hW => ⟨rfl, by rw [hU]; exact hPc, GE.warm hW G⟩)⟩ rfl rfl hl.1 rfl (lv_room (Nat.le_of_ble_eq_true rfl)) dX5_leastWant_52 ⟨Nat.le_of_ble_eq_true rfl, Nat.le_of_ble_eq_true rfl⟩) (fun qr52 hqr52 => ?_)
      obtain rfl := hqr52.symm
      refine lv_icmp_ge (tgt := 60) hx hb dX5_leastWant_55 (by decide) (fun c3 => ?_) (fun c3 => ?_)
      · replace hf := it_t c3 hf
        exact b_X5_leastWant_60 C G hR hP x1 x2 x3 T hK4 _ (lv_sub hl [1, 2, 3, 4] rfl) hf
      · replace hf := it_f c3 hf
        exact b_X5_leastWant_58 C G hR hP x1 x3 T hK4 _ (lv_sub hl [1, 2, 4] rfl) hf
def f_X5_leastWant_32 (x1 : Int32) (x2 : Int32) (x3 : Int32) (T : Tw) (K4 : Int32 → Int32 → Option Int32) : Option Int32 :=
  f_X5_leastWant_33 x1 x2 x3 (0 : Int32) T K4
set_option maxHeartbeats 4000000 in
set_option maxRecDepth 100000 in
theorem b_X5_leastWant_32 {p : Program} {l : Launch} {e : Env} {s : State} {m : MethodId} {args : Array Value} {below : List Frame} {meth : Method} {c : Code} {Q : State → Prop} {dC : Nat → ClassId} {dI : Nat → Nat → Nat} {cs : Nat → ClassId} {a : Nat → Nat} {res : Int32} (C : CallFix p m c cX5_leastWant 5 s args wsX5_leastWant RX5) (G : GE dC dI cs s) (hR : RPi p l e ({ frames := 3, cells := 0, slots := 0, locals := 64 }) s m args below meth c cX5_leastWant Q res) {T : Tw} (hP : va_P (dC, dI) vwCl (wT cs a T) s.heap) (x1 : Int32) (x2 : Int32) (x3 : Int32) (_ : Tw) {K4 : Int32 → Int32 → Option Int32} (hK4 : ∀ (x2 : Int32) (x3 : Int32) (ls : Array Slot), lv_has ls 5 [(0, .ref (a 0)), (1, .int (x1)), (2, .int (x2)), (3, .int (x3))] → K4 x2 x3 = some res → W p l e ({ frames := 3, cells := 0, slots := 0, locals := 64 }) s m args below meth c s.heap [] 0 0 Q (F0 m 4 ls [])) (ls : Array Slot) (hl : lv_has ls 5 [(0, .ref (a 0)), (1, .int (x1)), (2, .int (x2)), (3, .int (x3))]) (hf : f_X5_leastWant_32 x1 x2 x3 T K4 = some res) : W p l e ({ frames := 3, cells := 0, slots := 0, locals := 64 }) s m args below meth c s.heap [] 0 0 Q (F0 m 32 ls []) := by
  obtain ⟨hx, hb, hml, hown, hts⟩ := id C
  obtain ⟨hK, hN⟩ := id G
  unfold f_X5_leastWant_32 at hf
  refine lv_iconst (v := 0) hx hb dX5_leastWant_32 (by decide) ?_
  exact b_X5_leastWant_33 C G hR hP x1 x2 x3 (0 : Int32) T hK4 _ (lv_sub hl [0, 1, 2, 3] rfl) hf
def f_X5_leastWant_4 (x1 : Int32) (x2 : Int32) (x3 : Int32) (T : Tw) (K4 : Int32 → Int32 → Option Int32) : Option Int32 :=
  if (T.1 5) ≤ x3 then (
    some x2
  ) else (
    bn (f_X7_hasBit x1 x3) fun r14 =>
    if r14 = 0 then (
      bn (f_X5_wantOf x3 T) fun r22 =>
      if r22 ≤ 0 then (
        f_X5_leastWant_32 x1 x2 x3 T K4
      ) else (
        f_X5_leastWant_33 x1 x2 x3 (1 : Int32) T K4
      )
    ) else (
      f_X5_leastWant_32 x1 x2 x3 T K4
    )
  )
set_option maxHeartbeats 4000000 in
set_option maxRecDepth 100000 in
theorem b_X5_leastWant_4 {p : Program} {l : Launch} {e : Env} {s : State} {m : MethodId} {args : Array Value} {below : List Frame} {meth : Method} {c : Code} {Q : State → Prop} {dC : Nat → ClassId} {dI : Nat → Nat → Nat} {cs : Nat → ClassId} {a : Nat → Nat} {res : Int32} (C : CallFix p m c cX5_leastWant 5 s args wsX5_leastWant RX5) (G : GE dC dI cs s) (hR : RPi p l e ({ frames := 3, cells := 0, slots := 0, locals := 64 }) s m args below meth c cX5_leastWant Q res) {T : Tw} (hP : va_P (dC, dI) vwCl (wT cs a T) s.heap) (x1 : Int32) (x2 : Int32) (x3 : Int32) (_ : Tw) {K4 : Int32 → Int32 → Option Int32} (hK4 : ∀ (x2 : Int32) (x3 : Int32) (ls : Array Slot), lv_has ls 5 [(0, .ref (a 0)), (1, .int (x1)), (2, .int (x2)), (3, .int (x3))] → K4 x2 x3 = some res → W p l e ({ frames := 3, cells := 0, slots := 0, locals := 64 }) s m args below meth c s.heap [] 0 0 Q (F0 m 4 ls [])) (ls : Array Slot) (hl : lv_has ls 5 [(0, .ref (a 0)), (1, .int (x1)), (2, .int (x2)), (3, .int (x3))]) (hf : f_X5_leastWant_4 x1 x2 x3 T K4 = some res) : W p l e ({ frames := 3, cells := 0, slots := 0, locals := 64 }) s m args below meth c s.heap [] 0 0 Q (F0 m 4 ls []) := by
  obtain ⟨hx, hb, hml, hown, hts⟩ := id C
  obtain ⟨hK, hN⟩ := id G
  unfold f_X5_leastWant_4 at hf
  refine lv_iload_n hx hb dX5_leastWant_4 rfl (lv_at hl 3 rfl) ?_
  refine lv_aload_n hx hb dX5_leastWant_5 rfl (lv_at hl 0 rfl) ?_
  refine va_get (D := (dC, dI)) (ci := 5) (v := .int ((T.1 5))) (C := RX5) (T := TX5) (N := 17) hx hb hts in_X5_leastWant_X5 hown hK hP 0 rfl rfl 5 (by decide) (hts (.fieldLink RX5 58 "BackLoans$Town" "loans" "I") (by decide +kernel)) (fun _ h9 => h9) rfl dX5_leastWant_6 ?_
  refine lv_icmp_ge (tgt := 66) hx hb dX5_leastWant_9 (by decide) (fun c1 => ?_) (fun c1 => ?_)
  · replace hf := it_t c1 hf
    refine lv_iload_n hx hb dX5_leastWant_66 rfl (lv_at hl 2 rfl) ?_
    exact hR _ _ _ dX5_leastWant_67 hf
  · replace hf := it_f c1 hf
    refine lv_iload_n hx hb dX5_leastWant_12 rfl (lv_at hl 1 rfl) ?_
    refine lv_iload_n hx hb dX5_leastWant_13 rfl (lv_at hl 3 rfl) ?_
    obtain ⟨r14, hr14, hf⟩ := bn_e hf
    have hPc := hP.sub (ws' := ([] : va_W)) [] rfl
    refine vp_callSi (va_Run.run (va_runSN (As := [.int (x1), .int (x3)]) (rest := []) C (c_X7_hasBit l dC dI cs x1 x3 r14 hr14) ⟨va_cnB 2 hts gX5_leastWant_X7_hasBit_n74 rfl rfl rfl (hN (RX5, 74, yX7_hasBit, RX7) (by decide +kernel)) (hts (.initialized RX7) (by decide +kernel)) (by decide +kernel) ⟨Nat.le_of_ble_eq_true rfl, Nat.le_of_ble_eq_true rfl⟩, (hts (.static yX7_hasBit) (by decide +kernel)), trivial⟩ ⟨(fun a U g mk q => ⟨q.1, q.2.1, GE.calling q.2.2⟩), (fun U hU hW => ⟨rfl, by rw [hU]; exact hPc, GE.warm hW G⟩)⟩ rfl rfl hl.1 rfl (lv_room (Nat.le_of_ble_eq_true rfl)) dX5_leastWant_14 ⟨Nat.le_of_ble_eq_true rfl, Nat.le_of_ble_eq_true rfl⟩)) (fun qr14 hqr14 => ?_)
    obtain ⟨hqr14, hnr14⟩ := hqr14
    obtain rfl := hqr14.symm
    refine lv_if_ne (tgt := 32) hx hb dX5_leastWant_17 (by decide) (fun c2 => ?_) (fun c2 => ?_)
    · replace hf := it_f c2 hf
      exact b_X5_leastWant_32 C G hR hP x1 x2 x3 T hK4 _ (lv_sub hl [0, 1, 2, 3] rfl) hf
    · replace hf := it_t c2 hf
      refine lv_aload_n hx hb dX5_leastWant_20 rfl (lv_at hl 0 rfl) ?_
      refine lv_iload_n hx hb dX5_leastWant_21 rfl (lv_at hl 3 rfl) ?_
      obtain ⟨r22, hr22, hf⟩ := bn_e hf
      have hPc := hP.sub (ws' := (wT cs a T)) [0, 1, 2, 3, 4, 5, 6, 7, 8, 9, 10] rfl
      refine vp_callSi (W.runV (As := [.int (x3)]) (rest := []) C (c_X5_wantOf l dC dI cs a T x3 r22 hr22) (cwV 1 hts gX5_leastWant_X5_wantOf rfl rfl rfl (by decide +kernel) ⟨Nat.le_of_ble_eq_true rfl, Nat.le_of_ble_eq_true rfl⟩) ⟨(fun a U g mk q => ⟨q.1, q.2.1, GE.calling q.2.2⟩), va_recv hK hPc (ci := 5) (q0 := 0) rfl rfl, (fun U hU hW => ⟨rfl, by rw [hU]; exact hPc, GE.warm hW G⟩)⟩ rfl rfl hl.1 rfl (lv_room (Nat.le_of_ble_eq_true rfl)) dX5_leastWant_22 ⟨Nat.le_of_ble_eq_true rfl, Nat.le_of_ble_eq_true rfl⟩) (fun qr22 hqr22 => ?_)
      obtain rfl := hqr22.symm
      refine lv_if_le (tgt := 32) hx hb dX5_leastWant_25 (by decide) (fun c3 => ?_) (fun c3 => ?_)
      · replace hf := it_t c3 hf
        exact b_X5_leastWant_32 C G hR hP x1 x2 x3 T hK4 _ (lv_sub hl [0, 1, 2, 3] rfl) hf
      · replace hf := it_f c3 hf
        refine lv_iconst (v := 1) hx hb dX5_leastWant_28 (by decide) ?_
        refine lv_goto (tgt := 33) hx hb dX5_leastWant_29 (by decide) ?_
        exact b_X5_leastWant_33 C G hR hP x1 x2 x3 (1 : Int32) T hK4 _ (lv_sub hl [0, 1, 2, 3] rfl) hf
def l_X5_leastWant_4 (x1 : Int32) (T : Tw)  (n : Nat) (x2 : Int32) (x3 : Int32) : Option Int32 := itr (fun (k : Int32 × Int32 → Option Int32) (z : Int32 × Int32) => f_X5_leastWant_4 x1 z.1 z.2 T (fun x2 x3 => k (x2, x3))) n (x2, x3)
set_option maxHeartbeats 4000000 in
set_option maxRecDepth 100000 in
theorem w_X5_leastWant_4 {p : Program} {l : Launch} {e : Env} {s : State} {m : MethodId} {args : Array Value} {below : List Frame} {meth : Method} {c : Code} {Q : State → Prop} {dC : Nat → ClassId} {dI : Nat → Nat → Nat} {cs : Nat → ClassId} {a : Nat → Nat} {res : Int32} (C : CallFix p m c cX5_leastWant 5 s args wsX5_leastWant RX5) (G : GE dC dI cs s) (hR : RPi p l e ({ frames := 3, cells := 0, slots := 0, locals := 64 }) s m args below meth c cX5_leastWant Q res) {T : Tw} (hP : va_P (dC, dI) vwCl (wT cs a T) s.heap) (x1 : Int32) (_ : Tw)   : ∀ (n : Nat) (x2 : Int32) (x3 : Int32) (ls : Array Slot), lv_has ls 5 [(0, .ref (a 0)), (1, .int (x1)), (2, .int (x2)), (3, .int (x3))] → l_X5_leastWant_4 x1 T n x2 x3 = some res → W p l e ({ frames := 3, cells := 0, slots := 0, locals := 64 }) s m args below meth c s.heap [] 0 0 Q (F0 m 4 ls []) := by
  intro n
  induction n with
  | zero => intro x2 x3 ls hl hf; exact absurd hf (by simp [l_X5_leastWant_4, itr])
  | succ n ih => intro x2 x3 ls hl hf; exact b_X5_leastWant_4 C G hR hP x1 x2 x3 T (K4 := fun x2 x3 => l_X5_leastWant_4 x1 T n x2 x3) (fun x2 x3 ls hl hf => ih x2 x3 ls hl hf) ls hl hf
def f_X5_leastWant (x1 : Int32) (T : Tw) : Option Int32 :=
  lett (-1 : Int32) fun x2_1 =>
  lett (0 : Int32) fun x3_3 =>
  l_X5_leastWant_4 x1 T FU x2_1 x3_3
set_option maxHeartbeats 4000000 in
set_option maxRecDepth 100000 in
theorem c_X5_leastWant (l : Launch) (dC : Nat → ClassId) (dI : Nat → Nat → Nat) (cs : Nat → ClassId) (a : Nat → Nat) (T : Tw) (x1 : Int32) (res : Int32) (hf : f_X5_leastWant x1 T = some res) : Met l yX5_leastWant wsX5_leastWant ({ frames := 3, cells := 0, slots := 0, locals := 64 }) (va_Pc [.ref (a 0), .int (x1)] (fun U => va_P (dC, dI) vwCl (wT cs a T) U.heap ∧ GE dC dI cs U)) (vp_Si (fun r => r = res)) 0 0 (fun _ => False) := by
  refine Met.ofW (cc := cX5_leastWant) (maxL := 5) (ret := (some .int)) (by decide) rfl ?_
  intro p e s m args below meth c s₁ B hml hv
  obtain ⟨rfl, hP, G⟩ := hv
  have hts := atoms_spec (ws := wsX5_leastWant) B.pre
  have hown : s.vm.findClass RX5 = some m.cls := findClass_of_methodNamed B.named
  have hlocks := B.notSynchronized
  have hx := B.exec
  have hb := B.bytes
  have hr := B.returns
  have C : CallFix p m c cX5_leastWant 5 s _ wsX5_leastWant RX5 := ⟨hx, hb, hml, hown, hts⟩
  obtain ⟨hK, hN⟩ := id G
  have hR : RPi p l e ({ frames := 3, cells := 0, slots := 0, locals := 64 }) s m ([.ref (a 0), .int (x1)] : List Value).toArray below meth c cX5_leastWant (MQ below (vp_Si (fun r => r = res)) ([.ref (a 0), .int (x1)] : List Value).toArray s 0 0 (fun _ => False)) res := fun pc ls r dd h => W.iret hx hb hr (fun t ht hW => ⟨r, rfl, Option.some.inj h, ht⟩) (fun q hq => by cases hq) dd
  have hl := lv_entry ([.ref (a 0), .int (x1)]) (n := 5) (Nat.le_of_ble_eq_true rfl)
  rw [lg_entry_eq]
  generalize (lg_sl ([.ref (a 0), .int (x1)]) ++ List.replicate (5 - (lg_sl ([.ref (a 0), .int (x1)])).length) Slot.unset).toArray = ls at hl ⊢
  have hl : lv_has ls 5 [(0, .ref (a 0)), (1, .int (x1))] := hl
  unfold f_X5_leastWant at hf
  refine lv_iconst (v := -1) hx hb dX5_leastWant_0 (by decide) ?_
  refine lv_topi (fun x2_1 ex2_1 => ?_)
  replace hf := lett_s ex2_1 hf
  refine lv_istore_n (lv' := [(2, .int (x2_1)), (0, .ref (a 0)), (1, .int (x1))]) hx hb dX5_leastWant_1 rfl hl (by decide) rfl (fun ls hl => ?_)
  refine lv_iconst (v := 0) hx hb dX5_leastWant_2 (by decide) ?_
  refine lv_topi (fun x3_3 ex3_3 => ?_)
  replace hf := lett_s ex3_3 hf
  refine lv_istore_n (lv' := [(3, .int (x3_3)), (2, .int (x2_1)), (0, .ref (a 0)), (1, .int (x1))]) hx hb dX5_leastWant_3 rfl hl (by decide) rfl (fun ls hl => ?_)
  exact w_X5_leastWant_4 C G hR hP x1 T FU x2_1 x3_3 _ (lv_sub hl [2, 3, 1, 0] rfl) hf

theorem in_X5_paidInBestOrder_X5 : ∀ w ∈ wsX50, w ∈ wsX5_paidInBestOrder := by decide +kernel
def f_X5_paidInBestOrder_12 (x1 : Int32) (x2 : Int32) (x3 : Int32) (x4 : Int32) (T : Tw) (K12 : Int32 → Int32 → Int32 → Int32 → Option Int32) : Option Int32 :=
  if (T.1 5) ≤ x4 then (
    some x3
  ) else (
    bn (f_X5_leastWant x2 T) fun r23 =>
    if r23 = (-1 : Int32) then (
      some x3
    ) else (
      bn (f_X5_wantOf r23 T) fun r37 =>
      if r37 ≤ x1 then (
        bn (f_X5_wantOf r23 T) fun r50 =>
        lett (x1 - r50) fun x1_54 =>
        lett (x2 ||| ((1 : Int32) <<< (r23 &&& 31))) fun x2_61 =>
        lett (x3 + 1) fun x3_62 =>
        lett (x4 + 1) fun x4_65 =>
        K12 x1_54 x2_61 x3_62 x4_65
      ) else (
        some x3
      )
    )
  )
set_option maxHeartbeats 4000000 in
set_option maxRecDepth 100000 in
theorem b_X5_paidInBestOrder_12 {p : Program} {l : Launch} {e : Env} {s : State} {m : MethodId} {args : Array Value} {below : List Frame} {meth : Method} {c : Code} {Q : State → Prop} {dC : Nat → ClassId} {dI : Nat → Nat → Nat} {cs : Nat → ClassId} {a : Nat → Nat} {res : Int32} (C : CallFix p m c cX5_paidInBestOrder 6 s args wsX5_paidInBestOrder RX5) (G : GE dC dI cs s) (hR : RPi p l e ({ frames := 4, cells := 0, slots := 0, locals := 88 }) s m args below meth c cX5_paidInBestOrder Q res) {T : Tw} (hP : va_P (dC, dI) vwCl (wT cs a T) s.heap) (x1 : Int32) (x2 : Int32) (x3 : Int32) (x4 : Int32) (_ : Tw) {K12 : Int32 → Int32 → Int32 → Int32 → Option Int32} (hK12 : ∀ (x1 : Int32) (x2 : Int32) (x3 : Int32) (x4 : Int32) (ls : Array Slot), lv_has ls 6 [(0, .ref (a 0)), (1, .int (x1)), (2, .int (x2)), (3, .int (x3)), (4, .int (x4))] → K12 x1 x2 x3 x4 = some res → W p l e ({ frames := 4, cells := 0, slots := 0, locals := 88 }) s m args below meth c s.heap [] 0 0 Q (F0 m 12 ls [])) (ls : Array Slot) (hl : lv_has ls 6 [(0, .ref (a 0)), (1, .int (x1)), (2, .int (x2)), (3, .int (x3)), (4, .int (x4))]) (hf : f_X5_paidInBestOrder_12 x1 x2 x3 x4 T K12 = some res) : W p l e ({ frames := 4, cells := 0, slots := 0, locals := 88 }) s m args below meth c s.heap [] 0 0 Q (F0 m 12 ls []) := by
  obtain ⟨hx, hb, hml, hown, hts⟩ := id C
  obtain ⟨hK, hN⟩ := id G
  unfold f_X5_paidInBestOrder_12 at hf
  refine lv_iload hx hb dX5_paidInBestOrder_12 (lv_at hl 4 rfl) ?_
  refine lv_aload_n hx hb dX5_paidInBestOrder_14 rfl (lv_at hl 0 rfl) ?_
  refine va_get (D := (dC, dI)) (ci := 5) (v := .int ((T.1 5))) (C := RX5) (T := TX5) (N := 17) hx hb hts in_X5_paidInBestOrder_X5 hown hK hP 0 rfl rfl 5 (by decide) (hts (.fieldLink RX5 58 "BackLoans$Town" "loans" "I") (by decide +kernel)) (fun _ h9 => h9) rfl dX5_paidInBestOrder_15 ?_
  refine lv_icmp_ge (tgt := 71) hx hb dX5_paidInBestOrder_18 (by decide) (fun c1 => ?_) (fun c1 => ?_)
  · replace hf := it_t c1 hf
    refine lv_iload_n hx hb dX5_paidInBestOrder_71 rfl (lv_at hl 3 rfl) ?_
    exact hR _ _ _ dX5_paidInBestOrder_72 hf
  · replace hf := it_f c1 hf
    refine lv_aload_n hx hb dX5_paidInBestOrder_21 rfl (lv_at hl 0 rfl) ?_
    refine lv_iload_n hx hb dX5_paidInBestOrder_22 rfl (lv_at hl 2 rfl) ?_
    obtain ⟨r23, hr23, hf⟩ := bn_e hf
    have hPc := hP.sub (ws' := (wT cs a T)) [0, 1, 2, 3, 4, 5, 6, 7, 8, 9, 10] rfl
    refine vp_callSi (W.runV (As := [.int (x2)]) (rest := []) C (c_X5_leastWant l dC dI cs a T x2 r23 hr23) (cwV 1 hts gX5_paidInBestOrder_X5_leastWant rfl rfl rfl (by decide +kernel) ⟨Nat.le_of_ble_eq_true rfl, Nat.le_of_ble_eq_true rfl⟩) ⟨(fun a U g mk q => ⟨q.1, q.2.1, GE.calling q.2.2⟩), va_recv hK hPc (ci := 5) (q0 := 0) rfl rfl, (fun U hU hW => ⟨rfl, by rw [hU]; exact hPc, GE.warm hW G⟩)⟩ rfl rfl hl.1 rfl (lv_room (Nat.le_of_ble_eq_true rfl)) dX5_paidInBestOrder_23 ⟨Nat.le_of_ble_eq_true rfl, Nat.le_of_ble_eq_true rfl⟩) (fun qr23 hqr23 => ?_)
    obtain rfl := hqr23.symm
    refine lv_istore (lv' := [(5, .int (r23)), (0, .ref (a 0)), (1, .int (x1)), (2, .int (x2)), (3, .int (x3)), (4, .int (x4))]) hx hb dX5_paidInBestOrder_26 hl (by decide) rfl (fun ls hl => ?_)
    refine lv_iload hx hb dX5_paidInBestOrder_28 (lv_at hl 0 rfl) ?_
    refine lv_iconst (v := -1) hx hb dX5_paidInBestOrder_30 (by decide) ?_
    refine lv_icmp_eq (tgt := 44) hx hb dX5_paidInBestOrder_31 (by decide) (fun c2 => ?_) (fun c2 => ?_)
    · replace hf := it_t c2 hf
      refine lv_iload_n hx hb dX5_paidInBestOrder_44 rfl (lv_at hl 4 rfl) ?_
      exact hR _ _ _ dX5_paidInBestOrder_45 hf
    · replace hf := it_f c2 hf
      refine lv_aload_n hx hb dX5_paidInBestOrder_34 rfl (lv_at hl 1 rfl) ?_
      refine lv_iload hx hb dX5_paidInBestOrder_35 (lv_at hl 0 rfl) ?_
      obtain ⟨r37, hr37, hf⟩ := bn_e hf
      have hPc := hP.sub (ws' := (wT cs a T)) [0, 1, 2, 3, 4, 5, 6, 7, 8, 9, 10] rfl
      refine vp_callSi (W.runV (As := [.int (r23)]) (rest := []) C (c_X5_wantOf l dC dI cs a T r23 r37 hr37) (cwV 1 hts gX5_paidInBestOrder_X5_wantOf rfl rfl rfl (by decide +kernel) ⟨Nat.le_of_ble_eq_true rfl, Nat.le_of_ble_eq_true rfl⟩) ⟨(fun a U g mk q => ⟨q.1, q.2.1, GE.calling q.2.2⟩), va_recv hK hPc (ci := 5) (q0 := 0) rfl rfl, (fun U hU hW => ⟨rfl, by rw [hU]; exact hPc, GE.warm hW G⟩)⟩ rfl rfl hl.1 rfl (lv_room (Nat.le_of_ble_eq_true rfl)) dX5_paidInBestOrder_37 ⟨Nat.le_of_ble_eq_true rfl, Nat.le_of_ble_eq_true rfl⟩) (fun qr37 hqr37 => ?_)
      obtain rfl := hqr37.symm
      refine lv_iload_n hx hb dX5_paidInBestOrder_40 rfl (lv_at hl 2 rfl) ?_
      refine lv_icmp_le (tgt := 46) hx hb dX5_paidInBestOrder_41 (by decide) (fun c3 => ?_) (fun c3 => ?_)
      · replace hf := it_t c3 hf
        refine lv_iload_n hx hb dX5_paidInBestOrder_46 rfl (lv_at hl 2 rfl) ?_
        refine lv_aload_n hx hb dX5_paidInBestOrder_47 rfl (lv_at hl 1 rfl) ?_
        refine lv_iload hx hb dX5_paidInBestOrder_48 (lv_at hl 0 rfl) ?_
        obtain ⟨r50, hr50, hf⟩ := bn_e hf
        have hPc := hP.sub (ws' := (wT cs a T)) [0, 1, 2, 3, 4, 5, 6, 7, 8, 9, 10] rfl
        refine vp_callSi (W.runV (As := [.int (r23)]) (rest := [.int (x1)]) C (c_X5_wantOf l dC dI cs a T r23 r50 hr50) (cwV 1 hts gX5_paidInBestOrder_X5_wantOf rfl rfl rfl (by decide +kernel) ⟨Nat.le_of_ble_eq_true rfl, Nat.le_of_ble_eq_true rfl⟩) ⟨(fun a U g mk q => ⟨q.1, q.2.1, GE.calling q.2.2⟩), va_recv hK hPc (ci := 5) (q0 := 0) rfl rfl, (fun U hU hW => ⟨rfl, by rw [hU]; exact hPc, GE.warm hW G⟩)⟩ rfl rfl hl.1 rfl (lv_room (Nat.le_of_ble_eq_true rfl)) dX5_paidInBestOrder_50 ⟨Nat.le_of_ble_eq_true rfl, Nat.le_of_ble_eq_true rfl⟩) (fun qr50 hqr50 => ?_)
        obtain rfl := hqr50.symm
        refine lv_isub hx hb dX5_paidInBestOrder_53 ?_
        refine lv_topi (fun x1_54 ex1_54 => ?_)
        replace hf := lett_s ex1_54 hf
        refine lv_istore_n (lv' := [(1, .int (x1_54)), (5, .int (r23)), (0, .ref (a 0)), (2, .int (x2)), (3, .int (x3)), (4, .int (x4))]) hx hb dX5_paidInBestOrder_54 rfl hl (by decide) rfl (fun ls hl => ?_)
        refine lv_iload_n hx hb dX5_paidInBestOrder_55 rfl (lv_at hl 3 rfl) ?_
        refine lv_iconst (v := 1) hx hb dX5_paidInBestOrder_56 (by decide) ?_
        refine lv_iload hx hb dX5_paidInBestOrder_57 (lv_at hl 1 rfl) ?_
        refine lv_ishl hx hb dX5_paidInBestOrder_59 ?_
        refine lv_ior hx hb dX5_paidInBestOrder_60 ?_
        refine lv_topi (fun x2_61 ex2_61 => ?_)
        replace hf := lett_s ex2_61 hf
        refine lv_istore_n (lv' := [(2, .int (x2_61)), (1, .int (x1_54)), (5, .int (r23)), (0, .ref (a 0)), (3, .int (x3)), (4, .int (x4))]) hx hb dX5_paidInBestOrder_61 rfl hl (by decide) rfl (fun ls hl => ?_)
        obtain ⟨x3_62, ex3_62⟩ : ∃ y : Int32, y = (x3 + 1) := ⟨_, rfl⟩
        replace hf := lett_s ex3_62 hf
        refine lv_iinc (v := x3_62) (lv' := [(3, .int (x3_62)), (2, .int (x2_61)), (1, .int (x1_54)), (5, .int (r23)), (0, .ref (a 0)), (4, .int (x4))]) hx hb dX5_paidInBestOrder_62 hl (k := 4) rfl (by rw [ex3_62]; rfl) (by decide) rfl (fun ls hl => ?_)
        obtain ⟨x4_65, ex4_65⟩ : ∃ y : Int32, y = (x4 + 1) := ⟨_, rfl⟩
        replace hf := lett_s ex4_65 hf
        refine lv_iinc (v := x4_65) (lv' := [(4, .int (x4_65)), (3, .int (x3_62)), (2, .int (x2_61)), (1, .int (x1_54)), (5, .int (r23)), (0, .ref (a 0))]) hx hb dX5_paidInBestOrder_65 hl (k := 5) rfl (by rw [ex4_65]; rfl) (by decide) rfl (fun ls hl => ?_)
        refine lv_goto (tgt := 12) hx hb dX5_paidInBestOrder_68 (by decide) ?_
        exact hK12 x1_54 x2_61 x3_62 x4_65 _ (lv_sub hl [5, 3, 2, 1, 0] rfl) hf
      · replace hf := it_f c3 hf
        refine lv_iload_n hx hb dX5_paidInBestOrder_44 rfl (lv_at hl 4 rfl) ?_
        exact hR _ _ _ dX5_paidInBestOrder_45 hf
def l_X5_paidInBestOrder_12 (T : Tw)  (n : Nat) (x1 : Int32) (x2 : Int32) (x3 : Int32) (x4 : Int32) : Option Int32 := itr (fun (k : Int32 × Int32 × Int32 × Int32 → Option Int32) (z : Int32 × Int32 × Int32 × Int32) => f_X5_paidInBestOrder_12 z.1 z.2.1 z.2.2.1 z.2.2.2 T (fun x1 x2 x3 x4 => k (x1, x2, x3, x4))) n (x1, x2, x3, x4)
set_option maxHeartbeats 4000000 in
set_option maxRecDepth 100000 in
theorem w_X5_paidInBestOrder_12 {p : Program} {l : Launch} {e : Env} {s : State} {m : MethodId} {args : Array Value} {below : List Frame} {meth : Method} {c : Code} {Q : State → Prop} {dC : Nat → ClassId} {dI : Nat → Nat → Nat} {cs : Nat → ClassId} {a : Nat → Nat} {res : Int32} (C : CallFix p m c cX5_paidInBestOrder 6 s args wsX5_paidInBestOrder RX5) (G : GE dC dI cs s) (hR : RPi p l e ({ frames := 4, cells := 0, slots := 0, locals := 88 }) s m args below meth c cX5_paidInBestOrder Q res) {T : Tw} (hP : va_P (dC, dI) vwCl (wT cs a T) s.heap)  (_ : Tw)   : ∀ (n : Nat) (x1 : Int32) (x2 : Int32) (x3 : Int32) (x4 : Int32) (ls : Array Slot), lv_has ls 6 [(0, .ref (a 0)), (1, .int (x1)), (2, .int (x2)), (3, .int (x3)), (4, .int (x4))] → l_X5_paidInBestOrder_12 T n x1 x2 x3 x4 = some res → W p l e ({ frames := 4, cells := 0, slots := 0, locals := 88 }) s m args below meth c s.heap [] 0 0 Q (F0 m 12 ls []) := by
  intro n
  induction n with
  | zero => intro x1 x2 x3 x4 ls hl hf; exact absurd hf (by simp [l_X5_paidInBestOrder_12, itr])
  | succ n ih => intro x1 x2 x3 x4 ls hl hf; exact b_X5_paidInBestOrder_12 C G hR hP x1 x2 x3 x4 T (K12 := fun x1 x2 x3 x4 => l_X5_paidInBestOrder_12 T n x1 x2 x3 x4) (fun x1 x2 x3 x4 ls hl hf => ih x1 x2 x3 x4 ls hl hf) ls hl hf
def f_X5_paidInBestOrder  (T : Tw) : Option Int32 :=
  lett (0 : Int32) fun x2_6 =>
  lett (0 : Int32) fun x3_8 =>
  lett (0 : Int32) fun x4_10 =>
  l_X5_paidInBestOrder_12 T FU (T.1 0) x2_6 x3_8 x4_10
set_option maxHeartbeats 4000000 in
set_option maxRecDepth 100000 in
theorem c_X5_paidInBestOrder (l : Launch) (dC : Nat → ClassId) (dI : Nat → Nat → Nat) (cs : Nat → ClassId) (a : Nat → Nat) (T : Tw)  (res : Int32) (hf : f_X5_paidInBestOrder T = some res) : Met l yX5_paidInBestOrder wsX5_paidInBestOrder ({ frames := 4, cells := 0, slots := 0, locals := 88 }) (va_Pc [.ref (a 0)] (fun U => va_P (dC, dI) vwCl (wT cs a T) U.heap ∧ GE dC dI cs U)) (vp_Si (fun r => r = res)) 0 0 (fun _ => False) := by
  refine Met.ofW (cc := cX5_paidInBestOrder) (maxL := 6) (ret := (some .int)) (by decide) rfl ?_
  intro p e s m args below meth c s₁ B hml hv
  obtain ⟨rfl, hP, G⟩ := hv
  have hts := atoms_spec (ws := wsX5_paidInBestOrder) B.pre
  have hown : s.vm.findClass RX5 = some m.cls := findClass_of_methodNamed B.named
  have hlocks := B.notSynchronized
  have hx := B.exec
  have hb := B.bytes
  have hr := B.returns
  have C : CallFix p m c cX5_paidInBestOrder 6 s _ wsX5_paidInBestOrder RX5 := ⟨hx, hb, hml, hown, hts⟩
  obtain ⟨hK, hN⟩ := id G
  have hR : RPi p l e ({ frames := 4, cells := 0, slots := 0, locals := 88 }) s m ([.ref (a 0)] : List Value).toArray below meth c cX5_paidInBestOrder (MQ below (vp_Si (fun r => r = res)) ([.ref (a 0)] : List Value).toArray s 0 0 (fun _ => False)) res := fun pc ls r dd h => W.iret hx hb hr (fun t ht hW => ⟨r, rfl, Option.some.inj h, ht⟩) (fun q hq => by cases hq) dd
  have hl := lv_entry ([.ref (a 0)]) (n := 6) (Nat.le_of_ble_eq_true rfl)
  rw [lg_entry_eq]
  generalize (lg_sl ([.ref (a 0)]) ++ List.replicate (6 - (lg_sl ([.ref (a 0)])).length) Slot.unset).toArray = ls at hl ⊢
  have hl : lv_has ls 6 [(0, .ref (a 0))] := hl
  unfold f_X5_paidInBestOrder at hf
  refine lv_aload_n hx hb dX5_paidInBestOrder_0 rfl (lv_at hl 0 rfl) ?_
  refine va_get (D := (dC, dI)) (ci := 5) (v := .int ((T.1 0))) (C := RX5) (T := TX5) (N := 17) hx hb hts in_X5_paidInBestOrder_X5 hown hK hP 0 rfl rfl 0 (by decide) (hts (.fieldLink RX5 42 "BackLoans$Town" "chest" "I") (by decide +kernel)) (fun _ h9 => h9) rfl dX5_paidInBestOrder_1 ?_
  refine lv_istore_n (lv' := [(1, .int ((T.1 0))), (0, .ref (a 0))]) hx hb dX5_paidInBestOrder_4 rfl hl (by decide) rfl (fun ls hl => ?_)
  refine lv_iconst (v := 0) hx hb dX5_paidInBestOrder_5 (by decide) ?_
  refine lv_topi (fun x2_6 ex2_6 => ?_)
  replace hf := lett_s ex2_6 hf
  refine lv_istore_n (lv' := [(2, .int (x2_6)), (1, .int ((T.1 0))), (0, .ref (a 0))]) hx hb dX5_paidInBestOrder_6 rfl hl (by decide) rfl (fun ls hl => ?_)
  refine lv_iconst (v := 0) hx hb dX5_paidInBestOrder_7 (by decide) ?_
  refine lv_topi (fun x3_8 ex3_8 => ?_)
  replace hf := lett_s ex3_8 hf
  refine lv_istore_n (lv' := [(3, .int (x3_8)), (2, .int (x2_6)), (1, .int ((T.1 0))), (0, .ref (a 0))]) hx hb dX5_paidInBestOrder_8 rfl hl (by decide) rfl (fun ls hl => ?_)
  refine lv_iconst (v := 0) hx hb dX5_paidInBestOrder_9 (by decide) ?_
  refine lv_topi (fun x4_10 ex4_10 => ?_)
  replace hf := lett_s ex4_10 hf
  refine lv_istore (lv' := [(4, .int (x4_10)), (3, .int (x3_8)), (2, .int (x2_6)), (1, .int ((T.1 0))), (0, .ref (a 0))]) hx hb dX5_paidInBestOrder_10 hl (by decide) rfl (fun ls hl => ?_)
  exact w_X5_paidInBestOrder_12 C G hR hP T FU (T.1 0) x2_6 x3_8 x4_10 _ (lv_sub hl [4, 3, 2, 1, 0] rfl) hf

theorem in_X5_mixInto_X5 : ∀ w ∈ wsX50, w ∈ wsX5_mixInto := by decide +kernel
def f_X5_mixInto_5 (x3 : Int64) (x5 : Int32) (T : Tw) (K5 : Int64 → Int32 → Option Int64) (K65 : Int64 → Option Int64) : Option Int64 :=
  if (T.1 4) ≤ x5 then (
    K65 x3
  ) else (
    gi (x5) 6 <|
    lett (((31 : Int64) * x3) + (((T.2 0) (x5).toNatClampNeg)).toInt64) fun x3_28 =>
    gi (x5) 6 <|
    lett (((31 : Int64) * x3_28) + (((T.2 1) (x5).toNatClampNeg)).toInt64) fun x3_43 =>
    gi (x5) 6 <|
    lett (((31 : Int64) * x3_43) + (((T.2 2) (x5).toNatClampNeg)).toInt64) fun x3_58 =>
    lett (x5 + 1) fun x5_59 =>
    K5 x3_58 x5_59
  )
set_option maxHeartbeats 4000000 in
set_option maxRecDepth 100000 in
theorem b_X5_mixInto_5 {p : Program} {l : Launch} {e : Env} {s : State} {m : MethodId} {args : Array Value} {below : List Frame} {meth : Method} {c : Code} {Q : State → Prop} {dC : Nat → ClassId} {dI : Nat → Nat → Nat} {cs : Nat → ClassId} {a : Nat → Nat} {res : Int64} (C : CallFix p m c cX5_mixInto 6 s args wsX5_mixInto RX5) (G : GE dC dI cs s) (hR : RPl p l e ({ frames := 0, cells := 0, slots := 0, locals := 0 }) s m args below meth c cX5_mixInto Q res) {T : Tw} (hP : va_P (dC, dI) vwCl (wT cs a T) s.heap) (x3 : Int64) (x5 : Int32) (_ : Tw) {K5 : Int64 → Int32 → Option Int64} {K65 : Int64 → Option Int64} (hK5 : ∀ (x3 : Int64) (x5 : Int32) (ls : Array Slot), lv_has ls 6 [(0, .ref (a 0)), (3, .long (x3)), (5, .int (x5))] → K5 x3 x5 = some res → W p l e ({ frames := 0, cells := 0, slots := 0, locals := 0 }) s m args below meth c s.heap [] 0 0 Q (F0 m 5 ls [])) (hK65 : ∀ (x3 : Int64) (ls : Array Slot), lv_has ls 6 [(0, .ref (a 0)), (3, .long (x3))] → K65 x3 = some res → W p l e ({ frames := 0, cells := 0, slots := 0, locals := 0 }) s m args below meth c s.heap [] 0 0 Q (F0 m 65 ls [])) (ls : Array Slot) (hl : lv_has ls 6 [(0, .ref (a 0)), (3, .long (x3)), (5, .int (x5))]) (hf : f_X5_mixInto_5 x3 x5 T K5 K65 = some res) : W p l e ({ frames := 0, cells := 0, slots := 0, locals := 0 }) s m args below meth c s.heap [] 0 0 Q (F0 m 5 ls []) := by
  obtain ⟨hx, hb, hml, hown, hts⟩ := id C
  obtain ⟨hK, hN⟩ := id G
  unfold f_X5_mixInto_5 at hf
  refine lv_iload hx hb dX5_mixInto_5 (lv_at hl 2 rfl) ?_
  refine lv_aload_n hx hb dX5_mixInto_7 rfl (lv_at hl 0 rfl) ?_
  refine va_get (D := (dC, dI)) (ci := 5) (v := .int ((T.1 4))) (C := RX5) (T := TX5) (N := 17) hx hb hts in_X5_mixInto_X5 hown hK hP 0 rfl rfl 4 (by decide) (hts (.fieldLink RX5 55 "BackLoans$Town" "people" "I") (by decide +kernel)) (fun _ h9 => h9) rfl dX5_mixInto_8 ?_
  refine lv_icmp_ge (tgt := 65) hx hb dX5_mixInto_11 (by decide) (fun c1 => ?_) (fun c1 => ?_)
  · replace hf := it_t c1 hf
    exact hK65 x3 _ (lv_sub hl [0, 1] rfl) hf
  · replace hf := it_f c1 hf
    refine lv_ldc2 (v := 31) hx hb hown (hts (.constantLong RX5 116 (31)) (by decide +kernel)) dX5_mixInto_14 ?_
    refine lv_lload_n hx hb dX5_mixInto_17 rfl (lv_at hl 1 rfl) ?_
    refine lv_lmul hx hb dX5_mixInto_18 ?_
    refine lv_aload_n hx hb dX5_mixInto_19 rfl (lv_at hl 0 rfl) ?_
    refine va_get (D := (dC, dI)) (ci := 5) (v := .ref (a 1)) (C := RX5) (T := TX5) (N := 17) hx hb hts in_X5_mixInto_X5 hown hK hP 0 rfl rfl 7 (by decide) (hts (.fieldLink RX5 9 "BackLoans$Town" "kind" "[I") (by decide +kernel)) (fun _ h9 => h9) rfl dX5_mixInto_20 ?_
    refine lv_iload hx hb dX5_mixInto_23 (lv_at hl 2 rfl) ?_
    obtain ⟨hi2, hf⟩ := gi_e hf
    refine va_iald hx hb hK hP 1 0 rfl rfl hi2 dX5_mixInto_25 ?_
    refine lv_i2l hx hb dX5_mixInto_26 rfl ?_
    refine lv_ladd hx hb dX5_mixInto_27 ?_
    refine lv_topl (fun x3_28 ex3_28 => ?_)
    replace hf := lett_s ex3_28 hf
    refine lv_lstore_n (lv' := [(3, .long (x3_28)), (0, .ref (a 0)), (5, .int (x5))]) hx hb dX5_mixInto_28 rfl hl (by decide) rfl (fun ls hl => ?_)
    refine lv_ldc2 (v := 31) hx hb hown (hts (.constantLong RX5 116 (31)) (by decide +kernel)) dX5_mixInto_29 ?_
    refine lv_lload_n hx hb dX5_mixInto_32 rfl (lv_at hl 0 rfl) ?_
    refine lv_lmul hx hb dX5_mixInto_33 ?_
    refine lv_aload_n hx hb dX5_mixInto_34 rfl (lv_at hl 1 rfl) ?_
    refine va_get (D := (dC, dI)) (ci := 5) (v := .ref (a 2)) (C := RX5) (T := TX5) (N := 17) hx hb hts in_X5_mixInto_X5 hown hK hP 0 rfl rfl 8 (by decide) (hts (.fieldLink RX5 15 "BackLoans$Town" "means" "[I") (by decide +kernel)) (fun _ h9 => h9) rfl dX5_mixInto_35 ?_
    refine lv_iload hx hb dX5_mixInto_38 (lv_at hl 2 rfl) ?_
    obtain ⟨hi3, hf⟩ := gi_e hf
    refine va_iald hx hb hK hP 2 0 rfl rfl hi3 dX5_mixInto_40 ?_
    refine lv_i2l hx hb dX5_mixInto_41 rfl ?_
    refine lv_ladd hx hb dX5_mixInto_42 ?_
    refine lv_topl (fun x3_43 ex3_43 => ?_)
    replace hf := lett_s ex3_43 hf
    refine lv_lstore_n (lv' := [(3, .long (x3_43)), (0, .ref (a 0)), (5, .int (x5))]) hx hb dX5_mixInto_43 rfl hl (by decide) rfl (fun ls hl => ?_)
    refine lv_ldc2 (v := 31) hx hb hown (hts (.constantLong RX5 116 (31)) (by decide +kernel)) dX5_mixInto_44 ?_
    refine lv_lload_n hx hb dX5_mixInto_47 rfl (lv_at hl 0 rfl) ?_
    refine lv_lmul hx hb dX5_mixInto_48 ?_
    refine lv_aload_n hx hb dX5_mixInto_49 rfl (lv_at hl 1 rfl) ?_
    refine va_get (D := (dC, dI)) (ci := 5) (v := .ref (a 3)) (C := RX5) (T := TX5) (N := 17) hx hb hts in_X5_mixInto_X5 hown hK hP 0 rfl rfl 9 (by decide) (hts (.fieldLink RX5 18 "BackLoans$Town" "purse" "[I") (by decide +kernel)) (fun _ h9 => h9) rfl dX5_mixInto_50 ?_
    refine lv_iload hx hb dX5_mixInto_53 (lv_at hl 2 rfl) ?_
    obtain ⟨hi4, hf⟩ := gi_e hf
    refine va_iald hx hb hK hP 3 0 rfl rfl hi4 dX5_mixInto_55 ?_
    refine lv_i2l hx hb dX5_mixInto_56 rfl ?_
    refine lv_ladd hx hb dX5_mixInto_57 ?_
    refine lv_topl (fun x3_58 ex3_58 => ?_)
    replace hf := lett_s ex3_58 hf
    refine lv_lstore_n (lv' := [(3, .long (x3_58)), (0, .ref (a 0)), (5, .int (x5))]) hx hb dX5_mixInto_58 rfl hl (by decide) rfl (fun ls hl => ?_)
    obtain ⟨x5_59, ex5_59⟩ : ∃ y : Int32, y = (x5 + 1) := ⟨_, rfl⟩
    replace hf := lett_s ex5_59 hf
    refine lv_iinc (v := x5_59) (lv' := [(5, .int (x5_59)), (3, .long (x3_58)), (0, .ref (a 0))]) hx hb dX5_mixInto_59 hl (k := 2) rfl (by rw [ex5_59]; rfl) (by decide) rfl (fun ls hl => ?_)
    refine lv_goto (tgt := 5) hx hb dX5_mixInto_62 (by decide) ?_
    exact hK5 x3_58 x5_59 _ (lv_sub hl [2, 1, 0] rfl) hf
def l_X5_mixInto_5 (T : Tw) (K65 : Int64 → Option Int64) (n : Nat) (x3 : Int64) (x5 : Int32) : Option Int64 := itr (fun (k : Int64 × Int32 → Option Int64) (z : Int64 × Int32) => f_X5_mixInto_5 z.1 z.2 T (fun x3 x5 => k (x3, x5)) K65) n (x3, x5)
set_option maxHeartbeats 4000000 in
set_option maxRecDepth 100000 in
theorem w_X5_mixInto_5 {p : Program} {l : Launch} {e : Env} {s : State} {m : MethodId} {args : Array Value} {below : List Frame} {meth : Method} {c : Code} {Q : State → Prop} {dC : Nat → ClassId} {dI : Nat → Nat → Nat} {cs : Nat → ClassId} {a : Nat → Nat} {res : Int64} (C : CallFix p m c cX5_mixInto 6 s args wsX5_mixInto RX5) (G : GE dC dI cs s) (hR : RPl p l e ({ frames := 0, cells := 0, slots := 0, locals := 0 }) s m args below meth c cX5_mixInto Q res) {T : Tw} (hP : va_P (dC, dI) vwCl (wT cs a T) s.heap)  (_ : Tw) {K65 : Int64 → Option Int64} (hK65 : ∀ (x3 : Int64) (ls : Array Slot), lv_has ls 6 [(0, .ref (a 0)), (3, .long (x3))] → K65 x3 = some res → W p l e ({ frames := 0, cells := 0, slots := 0, locals := 0 }) s m args below meth c s.heap [] 0 0 Q (F0 m 65 ls [])) : ∀ (n : Nat) (x3 : Int64) (x5 : Int32) (ls : Array Slot), lv_has ls 6 [(0, .ref (a 0)), (3, .long (x3)), (5, .int (x5))] → l_X5_mixInto_5 T K65 n x3 x5 = some res → W p l e ({ frames := 0, cells := 0, slots := 0, locals := 0 }) s m args below meth c s.heap [] 0 0 Q (F0 m 5 ls []) := by
  intro n
  induction n with
  | zero => intro x3 x5 ls hl hf; exact absurd hf (by simp [l_X5_mixInto_5, itr])
  | succ n ih => intro x3 x5 ls hl hf; exact b_X5_mixInto_5 C G hR hP x3 x5 T (K5 := fun x3 x5 => l_X5_mixInto_5 T K65 n x3 x5) (fun x3 x5 ls hl hf => ih x3 x5 ls hl hf) hK65 ls hl hf
def f_X5_mixInto_68 (x3 : Int64) (x5 : Int32) (T : Tw) (K68 : Int64 → Int32 → Option Int64) (K158 : Int64 → Option Int64) : Option Int64 :=
  if (T.1 5) ≤ x5 then (
    K158 x3
  ) else (
    gi (x5) 8 <|
    lett (((31 : Int64) * x3) + (((T.2 3) (x5).toNatClampNeg)).toInt64) fun x3_91 =>
    gi (x5) 8 <|
    lett (((31 : Int64) * x3_91) + (((T.2 4) (x5).toNatClampNeg)).toInt64) fun x3_106 =>
    gi (x5) 8 <|
    lett (((31 : Int64) * x3_106) + (((T.2 5) (x5).toNatClampNeg)).toInt64) fun x3_121 =>
    gi (x5) 8 <|
    lett (((31 : Int64) * x3_121) + (((T.2 6) (x5).toNatClampNeg)).toInt64) fun x3_136 =>
    gi (x5) 8 <|
    lett (((31 : Int64) * x3_136) + (((T.2 7) (x5).toNatClampNeg)).toInt64) fun x3_151 =>
    lett (x5 + 1) fun x5_152 =>
    K68 x3_151 x5_152
  )
set_option maxHeartbeats 4000000 in
set_option maxRecDepth 100000 in
theorem b_X5_mixInto_68 {p : Program} {l : Launch} {e : Env} {s : State} {m : MethodId} {args : Array Value} {below : List Frame} {meth : Method} {c : Code} {Q : State → Prop} {dC : Nat → ClassId} {dI : Nat → Nat → Nat} {cs : Nat → ClassId} {a : Nat → Nat} {res : Int64} (C : CallFix p m c cX5_mixInto 6 s args wsX5_mixInto RX5) (G : GE dC dI cs s) (hR : RPl p l e ({ frames := 0, cells := 0, slots := 0, locals := 0 }) s m args below meth c cX5_mixInto Q res) {T : Tw} (hP : va_P (dC, dI) vwCl (wT cs a T) s.heap) (x3 : Int64) (x5 : Int32) (_ : Tw) {K68 : Int64 → Int32 → Option Int64} {K158 : Int64 → Option Int64} (hK68 : ∀ (x3 : Int64) (x5 : Int32) (ls : Array Slot), lv_has ls 6 [(0, .ref (a 0)), (3, .long (x3)), (5, .int (x5))] → K68 x3 x5 = some res → W p l e ({ frames := 0, cells := 0, slots := 0, locals := 0 }) s m args below meth c s.heap [] 0 0 Q (F0 m 68 ls [])) (hK158 : ∀ (x3 : Int64) (ls : Array Slot), lv_has ls 6 [(0, .ref (a 0)), (3, .long (x3))] → K158 x3 = some res → W p l e ({ frames := 0, cells := 0, slots := 0, locals := 0 }) s m args below meth c s.heap [] 0 0 Q (F0 m 158 ls [])) (ls : Array Slot) (hl : lv_has ls 6 [(0, .ref (a 0)), (3, .long (x3)), (5, .int (x5))]) (hf : f_X5_mixInto_68 x3 x5 T K68 K158 = some res) : W p l e ({ frames := 0, cells := 0, slots := 0, locals := 0 }) s m args below meth c s.heap [] 0 0 Q (F0 m 68 ls []) := by
  obtain ⟨hx, hb, hml, hown, hts⟩ := id C
  obtain ⟨hK, hN⟩ := id G
  unfold f_X5_mixInto_68 at hf
  refine lv_iload hx hb dX5_mixInto_68 (lv_at hl 2 rfl) ?_
  refine lv_aload_n hx hb dX5_mixInto_70 rfl (lv_at hl 0 rfl) ?_
  refine va_get (D := (dC, dI)) (ci := 5) (v := .int ((T.1 5))) (C := RX5) (T := TX5) (N := 17) hx hb hts in_X5_mixInto_X5 hown hK hP 0 rfl rfl 5 (by decide) (hts (.fieldLink RX5 58 "BackLoans$Town" "loans" "I") (by decide +kernel)) (fun _ h9 => h9) rfl dX5_mixInto_71 ?_
  refine lv_icmp_ge (tgt := 158) hx hb dX5_mixInto_74 (by decide) (fun c1 => ?_) (fun c1 => ?_)
  · replace hf := it_t c1 hf
    exact hK158 x3 _ (lv_sub hl [0, 1] rfl) hf
  · replace hf := it_f c1 hf
    refine lv_ldc2 (v := 31) hx hb hown (hts (.constantLong RX5 116 (31)) (by decide +kernel)) dX5_mixInto_77 ?_
    refine lv_lload_n hx hb dX5_mixInto_80 rfl (lv_at hl 1 rfl) ?_
    refine lv_lmul hx hb dX5_mixInto_81 ?_
    refine lv_aload_n hx hb dX5_mixInto_82 rfl (lv_at hl 0 rfl) ?_
    refine va_get (D := (dC, dI)) (ci := 5) (v := .ref (a 4)) (C := RX5) (T := TX5) (N := 17) hx hb hts in_X5_mixInto_X5 hown hK hP 0 rfl rfl 10 (by decide) (hts (.fieldLink RX5 21 "BackLoans$Town" "owner" "[I") (by decide +kernel)) (fun _ h9 => h9) rfl dX5_mixInto_83 ?_
    refine lv_iload hx hb dX5_mixInto_86 (lv_at hl 2 rfl) ?_
    obtain ⟨hi2, hf⟩ := gi_e hf
    refine va_iald hx hb hK hP 4 0 rfl rfl hi2 dX5_mixInto_88 ?_
    refine lv_i2l hx hb dX5_mixInto_89 rfl ?_
    refine lv_ladd hx hb dX5_mixInto_90 ?_
    refine lv_topl (fun x3_91 ex3_91 => ?_)
    replace hf := lett_s ex3_91 hf
    refine lv_lstore_n (lv' := [(3, .long (x3_91)), (0, .ref (a 0)), (5, .int (x5))]) hx hb dX5_mixInto_91 rfl hl (by decide) rfl (fun ls hl => ?_)
    refine lv_ldc2 (v := 31) hx hb hown (hts (.constantLong RX5 116 (31)) (by decide +kernel)) dX5_mixInto_92 ?_
    refine lv_lload_n hx hb dX5_mixInto_95 rfl (lv_at hl 0 rfl) ?_
    refine lv_lmul hx hb dX5_mixInto_96 ?_
    refine lv_aload_n hx hb dX5_mixInto_97 rfl (lv_at hl 1 rfl) ?_
    refine va_get (D := (dC, dI)) (ci := 5) (v := .ref (a 5)) (C := RX5) (T := TX5) (N := 17) hx hb hts in_X5_mixInto_X5 hown hK hP 0 rfl rfl 11 (by decide) (hts (.fieldLink RX5 24 "BackLoans$Town" "pence" "[I") (by decide +kernel)) (fun _ h9 => h9) rfl dX5_mixInto_98 ?_
    refine lv_iload hx hb dX5_mixInto_101 (lv_at hl 2 rfl) ?_
    obtain ⟨hi3, hf⟩ := gi_e hf
    refine va_iald hx hb hK hP 5 0 rfl rfl hi3 dX5_mixInto_103 ?_
    refine lv_i2l hx hb dX5_mixInto_104 rfl ?_
    refine lv_ladd hx hb dX5_mixInto_105 ?_
    refine lv_topl (fun x3_106 ex3_106 => ?_)
    replace hf := lett_s ex3_106 hf
    refine lv_lstore_n (lv' := [(3, .long (x3_106)), (0, .ref (a 0)), (5, .int (x5))]) hx hb dX5_mixInto_106 rfl hl (by decide) rfl (fun ls hl => ?_)
    refine lv_ldc2 (v := 31) hx hb hown (hts (.constantLong RX5 116 (31)) (by decide +kernel)) dX5_mixInto_107 ?_
    refine lv_lload_n hx hb dX5_mixInto_110 rfl (lv_at hl 0 rfl) ?_
    refine lv_lmul hx hb dX5_mixInto_111 ?_
    refine lv_aload_n hx hb dX5_mixInto_112 rfl (lv_at hl 1 rfl) ?_
    refine va_get (D := (dC, dI)) (ci := 5) (v := .ref (a 6)) (C := RX5) (T := TX5) (N := 17) hx hb hts in_X5_mixInto_X5 hown hK hP 0 rfl rfl 12 (by decide) (hts (.fieldLink RX5 27 "BackLoans$Town" "times" "[I") (by decide +kernel)) (fun _ h9 => h9) rfl dX5_mixInto_113 ?_
    refine lv_iload hx hb dX5_mixInto_116 (lv_at hl 2 rfl) ?_
    obtain ⟨hi4, hf⟩ := gi_e hf
    refine va_iald hx hb hK hP 6 0 rfl rfl hi4 dX5_mixInto_118 ?_
    refine lv_i2l hx hb dX5_mixInto_119 rfl ?_
    refine lv_ladd hx hb dX5_mixInto_120 ?_
    refine lv_topl (fun x3_121 ex3_121 => ?_)
    replace hf := lett_s ex3_121 hf
    refine lv_lstore_n (lv' := [(3, .long (x3_121)), (0, .ref (a 0)), (5, .int (x5))]) hx hb dX5_mixInto_121 rfl hl (by decide) rfl (fun ls hl => ?_)
    refine lv_ldc2 (v := 31) hx hb hown (hts (.constantLong RX5 116 (31)) (by decide +kernel)) dX5_mixInto_122 ?_
    refine lv_lload_n hx hb dX5_mixInto_125 rfl (lv_at hl 0 rfl) ?_
    refine lv_lmul hx hb dX5_mixInto_126 ?_
    refine lv_aload_n hx hb dX5_mixInto_127 rfl (lv_at hl 1 rfl) ?_
    refine va_get (D := (dC, dI)) (ci := 5) (v := .ref (a 7)) (C := RX5) (T := TX5) (N := 17) hx hb hts in_X5_mixInto_X5 hown hK hP 0 rfl rfl 13 (by decide) (hts (.fieldLink RX5 30 "BackLoans$Town" "state" "[I") (by decide +kernel)) (fun _ h9 => h9) rfl dX5_mixInto_128 ?_
    refine lv_iload hx hb dX5_mixInto_131 (lv_at hl 2 rfl) ?_
    obtain ⟨hi5, hf⟩ := gi_e hf
    refine va_iald hx hb hK hP 7 0 rfl rfl hi5 dX5_mixInto_133 ?_
    refine lv_i2l hx hb dX5_mixInto_134 rfl ?_
    refine lv_ladd hx hb dX5_mixInto_135 ?_
    refine lv_topl (fun x3_136 ex3_136 => ?_)
    replace hf := lett_s ex3_136 hf
    refine lv_lstore_n (lv' := [(3, .long (x3_136)), (0, .ref (a 0)), (5, .int (x5))]) hx hb dX5_mixInto_136 rfl hl (by decide) rfl (fun ls hl => ?_)
    refine lv_ldc2 (v := 31) hx hb hown (hts (.constantLong RX5 116 (31)) (by decide +kernel)) dX5_mixInto_137 ?_
    refine lv_lload_n hx hb dX5_mixInto_140 rfl (lv_at hl 0 rfl) ?_
    refine lv_lmul hx hb dX5_mixInto_141 ?_
    refine lv_aload_n hx hb dX5_mixInto_142 rfl (lv_at hl 1 rfl) ?_
    refine va_get (D := (dC, dI)) (ci := 5) (v := .ref (a 8)) (C := RX5) (T := TX5) (N := 17) hx hb hts in_X5_mixInto_X5 hown hK hP 0 rfl rfl 14 (by decide) (hts (.fieldLink RX5 33 "BackLoans$Town" "given" "[I") (by decide +kernel)) (fun _ h9 => h9) rfl dX5_mixInto_143 ?_
    refine lv_iload hx hb dX5_mixInto_146 (lv_at hl 2 rfl) ?_
    obtain ⟨hi6, hf⟩ := gi_e hf
    refine va_iald hx hb hK hP 8 0 rfl rfl hi6 dX5_mixInto_148 ?_
    refine lv_i2l hx hb dX5_mixInto_149 rfl ?_
    refine lv_ladd hx hb dX5_mixInto_150 ?_
    refine lv_topl (fun x3_151 ex3_151 => ?_)
    replace hf := lett_s ex3_151 hf
    refine lv_lstore_n (lv' := [(3, .long (x3_151)), (0, .ref (a 0)), (5, .int (x5))]) hx hb dX5_mixInto_151 rfl hl (by decide) rfl (fun ls hl => ?_)
    obtain ⟨x5_152, ex5_152⟩ : ∃ y : Int32, y = (x5 + 1) := ⟨_, rfl⟩
    replace hf := lett_s ex5_152 hf
    refine lv_iinc (v := x5_152) (lv' := [(5, .int (x5_152)), (3, .long (x3_151)), (0, .ref (a 0))]) hx hb dX5_mixInto_152 hl (k := 2) rfl (by rw [ex5_152]; rfl) (by decide) rfl (fun ls hl => ?_)
    refine lv_goto (tgt := 68) hx hb dX5_mixInto_155 (by decide) ?_
    exact hK68 x3_151 x5_152 _ (lv_sub hl [2, 1, 0] rfl) hf
def l_X5_mixInto_68 (T : Tw) (K158 : Int64 → Option Int64) (n : Nat) (x3 : Int64) (x5 : Int32) : Option Int64 := itr (fun (k : Int64 × Int32 → Option Int64) (z : Int64 × Int32) => f_X5_mixInto_68 z.1 z.2 T (fun x3 x5 => k (x3, x5)) K158) n (x3, x5)
set_option maxHeartbeats 4000000 in
set_option maxRecDepth 100000 in
theorem w_X5_mixInto_68 {p : Program} {l : Launch} {e : Env} {s : State} {m : MethodId} {args : Array Value} {below : List Frame} {meth : Method} {c : Code} {Q : State → Prop} {dC : Nat → ClassId} {dI : Nat → Nat → Nat} {cs : Nat → ClassId} {a : Nat → Nat} {res : Int64} (C : CallFix p m c cX5_mixInto 6 s args wsX5_mixInto RX5) (G : GE dC dI cs s) (hR : RPl p l e ({ frames := 0, cells := 0, slots := 0, locals := 0 }) s m args below meth c cX5_mixInto Q res) {T : Tw} (hP : va_P (dC, dI) vwCl (wT cs a T) s.heap)  (_ : Tw) {K158 : Int64 → Option Int64} (hK158 : ∀ (x3 : Int64) (ls : Array Slot), lv_has ls 6 [(0, .ref (a 0)), (3, .long (x3))] → K158 x3 = some res → W p l e ({ frames := 0, cells := 0, slots := 0, locals := 0 }) s m args below meth c s.heap [] 0 0 Q (F0 m 158 ls [])) : ∀ (n : Nat) (x3 : Int64) (x5 : Int32) (ls : Array Slot), lv_has ls 6 [(0, .ref (a 0)), (3, .long (x3)), (5, .int (x5))] → l_X5_mixInto_68 T K158 n x3 x5 = some res → W p l e ({ frames := 0, cells := 0, slots := 0, locals := 0 }) s m args below meth c s.heap [] 0 0 Q (F0 m 68 ls []) := by
  intro n
  induction n with
  | zero => intro x3 x5 ls hl hf; exact absurd hf (by simp [l_X5_mixInto_68, itr])
  | succ n ih => intro x3 x5 ls hl hf; exact b_X5_mixInto_68 C G hR hP x3 x5 T (K68 := fun x3 x5 => l_X5_mixInto_68 T K158 n x3 x5) (fun x3 x5 ls hl hf => ih x3 x5 ls hl hf) hK158 ls hl hf
def f_X5_mixInto_161 (x3 : Int64) (x5 : Int32) (T : Tw) (K161 : Int64 → Int32 → Option Int64) : Option Int64 :=
  if (T.1 6) ≤ x5 then (
    some x3
  ) else (
    gi (x5) 8 <|
    lett (((31 : Int64) * x3) + (((T.2 8) (x5).toNatClampNeg)).toInt64) fun x3_184 =>
    gi (x5) 8 <|
    lett (((31 : Int64) * x3_184) + (((T.2 9) (x5).toNatClampNeg)).toInt64) fun x3_199 =>
    lett (x5 + 1) fun x5_200 =>
    K161 x3_199 x5_200
  )
set_option maxHeartbeats 4000000 in
set_option maxRecDepth 100000 in
theorem b_X5_mixInto_161 {p : Program} {l : Launch} {e : Env} {s : State} {m : MethodId} {args : Array Value} {below : List Frame} {meth : Method} {c : Code} {Q : State → Prop} {dC : Nat → ClassId} {dI : Nat → Nat → Nat} {cs : Nat → ClassId} {a : Nat → Nat} {res : Int64} (C : CallFix p m c cX5_mixInto 6 s args wsX5_mixInto RX5) (G : GE dC dI cs s) (hR : RPl p l e ({ frames := 0, cells := 0, slots := 0, locals := 0 }) s m args below meth c cX5_mixInto Q res) {T : Tw} (hP : va_P (dC, dI) vwCl (wT cs a T) s.heap) (x3 : Int64) (x5 : Int32) (_ : Tw) {K161 : Int64 → Int32 → Option Int64} (hK161 : ∀ (x3 : Int64) (x5 : Int32) (ls : Array Slot), lv_has ls 6 [(0, .ref (a 0)), (3, .long (x3)), (5, .int (x5))] → K161 x3 x5 = some res → W p l e ({ frames := 0, cells := 0, slots := 0, locals := 0 }) s m args below meth c s.heap [] 0 0 Q (F0 m 161 ls [])) (ls : Array Slot) (hl : lv_has ls 6 [(0, .ref (a 0)), (3, .long (x3)), (5, .int (x5))]) (hf : f_X5_mixInto_161 x3 x5 T K161 = some res) : W p l e ({ frames := 0, cells := 0, slots := 0, locals := 0 }) s m args below meth c s.heap [] 0 0 Q (F0 m 161 ls []) := by
  obtain ⟨hx, hb, hml, hown, hts⟩ := id C
  obtain ⟨hK, hN⟩ := id G
  unfold f_X5_mixInto_161 at hf
  refine lv_iload hx hb dX5_mixInto_161 (lv_at hl 2 rfl) ?_
  refine lv_aload_n hx hb dX5_mixInto_163 rfl (lv_at hl 0 rfl) ?_
  refine va_get (D := (dC, dI)) (ci := 5) (v := .int ((T.1 6))) (C := RX5) (T := TX5) (N := 17) hx hb hts in_X5_mixInto_X5 hown hK hP 0 rfl rfl 6 (by decide) (hts (.fieldLink RX5 61 "BackLoans$Town" "offers" "I") (by decide +kernel)) (fun _ h9 => h9) rfl dX5_mixInto_164 ?_
  refine lv_icmp_ge (tgt := 206) hx hb dX5_mixInto_167 (by decide) (fun c1 => ?_) (fun c1 => ?_)
  · replace hf := it_t c1 hf
    refine lv_lload_n hx hb dX5_mixInto_206 rfl (lv_at hl 1 rfl) ?_
    exact hR _ _ _ dX5_mixInto_207 hf
  · replace hf := it_f c1 hf
    refine lv_ldc2 (v := 31) hx hb hown (hts (.constantLong RX5 116 (31)) (by decide +kernel)) dX5_mixInto_170 ?_
    refine lv_lload_n hx hb dX5_mixInto_173 rfl (lv_at hl 1 rfl) ?_
    refine lv_lmul hx hb dX5_mixInto_174 ?_
    refine lv_aload_n hx hb dX5_mixInto_175 rfl (lv_at hl 0 rfl) ?_
    refine va_get (D := (dC, dI)) (ci := 5) (v := .ref (a 9)) (C := RX5) (T := TX5) (N := 17) hx hb hts in_X5_mixInto_X5 hown hK hP 0 rfl rfl 15 (by decide) (hts (.fieldLink RX5 36 "BackLoans$Town" "offerPence" "[I") (by decide +kernel)) (fun _ h9 => h9) rfl dX5_mixInto_176 ?_
    refine lv_iload hx hb dX5_mixInto_179 (lv_at hl 2 rfl) ?_
    obtain ⟨hi2, hf⟩ := gi_e hf
    refine va_iald hx hb hK hP 9 0 rfl rfl hi2 dX5_mixInto_181 ?_
    refine lv_i2l hx hb dX5_mixInto_182 rfl ?_
    refine lv_ladd hx hb dX5_mixInto_183 ?_
    refine lv_topl (fun x3_184 ex3_184 => ?_)
    replace hf := lett_s ex3_184 hf
    refine lv_lstore_n (lv' := [(3, .long (x3_184)), (0, .ref (a 0)), (5, .int (x5))]) hx hb dX5_mixInto_184 rfl hl (by decide) rfl (fun ls hl => ?_)
    refine lv_ldc2 (v := 31) hx hb hown (hts (.constantLong RX5 116 (31)) (by decide +kernel)) dX5_mixInto_185 ?_
    refine lv_lload_n hx hb dX5_mixInto_188 rfl (lv_at hl 0 rfl) ?_
    refine lv_lmul hx hb dX5_mixInto_189 ?_
    refine lv_aload_n hx hb dX5_mixInto_190 rfl (lv_at hl 1 rfl) ?_
    refine va_get (D := (dC, dI)) (ci := 5) (v := .ref (a 10)) (C := RX5) (T := TX5) (N := 17) hx hb hts in_X5_mixInto_X5 hown hK hP 0 rfl rfl 16 (by decide) (hts (.fieldLink RX5 39 "BackLoans$Town" "offerTimes" "[I") (by decide +kernel)) (fun _ h9 => h9) rfl dX5_mixInto_191 ?_
    refine lv_iload hx hb dX5_mixInto_194 (lv_at hl 2 rfl) ?_
    obtain ⟨hi3, hf⟩ := gi_e hf
    refine va_iald hx hb hK hP 10 0 rfl rfl hi3 dX5_mixInto_196 ?_
    refine lv_i2l hx hb dX5_mixInto_197 rfl ?_
    refine lv_ladd hx hb dX5_mixInto_198 ?_
    refine lv_topl (fun x3_199 ex3_199 => ?_)
    replace hf := lett_s ex3_199 hf
    refine lv_lstore_n (lv' := [(3, .long (x3_199)), (0, .ref (a 0)), (5, .int (x5))]) hx hb dX5_mixInto_199 rfl hl (by decide) rfl (fun ls hl => ?_)
    obtain ⟨x5_200, ex5_200⟩ : ∃ y : Int32, y = (x5 + 1) := ⟨_, rfl⟩
    replace hf := lett_s ex5_200 hf
    refine lv_iinc (v := x5_200) (lv' := [(5, .int (x5_200)), (3, .long (x3_199)), (0, .ref (a 0))]) hx hb dX5_mixInto_200 hl (k := 2) rfl (by rw [ex5_200]; rfl) (by decide) rfl (fun ls hl => ?_)
    refine lv_goto (tgt := 161) hx hb dX5_mixInto_203 (by decide) ?_
    exact hK161 x3_199 x5_200 _ (lv_sub hl [2, 1, 0] rfl) hf
def l_X5_mixInto_161 (T : Tw)  (n : Nat) (x3 : Int64) (x5 : Int32) : Option Int64 := itr (fun (k : Int64 × Int32 → Option Int64) (z : Int64 × Int32) => f_X5_mixInto_161 z.1 z.2 T (fun x3 x5 => k (x3, x5))) n (x3, x5)
set_option maxHeartbeats 4000000 in
set_option maxRecDepth 100000 in
theorem w_X5_mixInto_161 {p : Program} {l : Launch} {e : Env} {s : State} {m : MethodId} {args : Array Value} {below : List Frame} {meth : Method} {c : Code} {Q : State → Prop} {dC : Nat → ClassId} {dI : Nat → Nat → Nat} {cs : Nat → ClassId} {a : Nat → Nat} {res : Int64} (C : CallFix p m c cX5_mixInto 6 s args wsX5_mixInto RX5) (G : GE dC dI cs s) (hR : RPl p l e ({ frames := 0, cells := 0, slots := 0, locals := 0 }) s m args below meth c cX5_mixInto Q res) {T : Tw} (hP : va_P (dC, dI) vwCl (wT cs a T) s.heap)  (_ : Tw)   : ∀ (n : Nat) (x3 : Int64) (x5 : Int32) (ls : Array Slot), lv_has ls 6 [(0, .ref (a 0)), (3, .long (x3)), (5, .int (x5))] → l_X5_mixInto_161 T n x3 x5 = some res → W p l e ({ frames := 0, cells := 0, slots := 0, locals := 0 }) s m args below meth c s.heap [] 0 0 Q (F0 m 161 ls []) := by
  intro n
  induction n with
  | zero => intro x3 x5 ls hl hf; exact absurd hf (by simp [l_X5_mixInto_161, itr])
  | succ n ih => intro x3 x5 ls hl hf; exact b_X5_mixInto_161 C G hR hP x3 x5 T (K161 := fun x3 x5 => l_X5_mixInto_161 T n x3 x5) (fun x3 x5 ls hl hf => ih x3 x5 ls hl hf) ls hl hf
def f_X5_mixInto_158 (x3 : Int64) (T : Tw)  : Option Int64 :=
  lett (0 : Int32) fun x5_159 =>
  l_X5_mixInto_161 T FU x3 x5_159
set_option maxHeartbeats 4000000 in
set_option maxRecDepth 100000 in
theorem b_X5_mixInto_158 {p : Program} {l : Launch} {e : Env} {s : State} {m : MethodId} {args : Array Value} {below : List Frame} {meth : Method} {c : Code} {Q : State → Prop} {dC : Nat → ClassId} {dI : Nat → Nat → Nat} {cs : Nat → ClassId} {a : Nat → Nat} {res : Int64} (C : CallFix p m c cX5_mixInto 6 s args wsX5_mixInto RX5) (G : GE dC dI cs s) (hR : RPl p l e ({ frames := 0, cells := 0, slots := 0, locals := 0 }) s m args below meth c cX5_mixInto Q res) {T : Tw} (hP : va_P (dC, dI) vwCl (wT cs a T) s.heap) (x3 : Int64) (_ : Tw)   (ls : Array Slot) (hl : lv_has ls 6 [(0, .ref (a 0)), (3, .long (x3))]) (hf : f_X5_mixInto_158 x3 T = some res) : W p l e ({ frames := 0, cells := 0, slots := 0, locals := 0 }) s m args below meth c s.heap [] 0 0 Q (F0 m 158 ls []) := by
  obtain ⟨hx, hb, hml, hown, hts⟩ := id C
  obtain ⟨hK, hN⟩ := id G
  unfold f_X5_mixInto_158 at hf
  refine lv_iconst (v := 0) hx hb dX5_mixInto_158 (by decide) ?_
  refine lv_topi (fun x5_159 ex5_159 => ?_)
  replace hf := lett_s ex5_159 hf
  refine lv_istore (lv' := [(5, .int (x5_159)), (0, .ref (a 0)), (3, .long (x3))]) hx hb dX5_mixInto_159 hl (by decide) rfl (fun ls hl => ?_)
  exact w_X5_mixInto_161 C G hR hP T FU x3 x5_159 _ (lv_sub hl [1, 2, 0] rfl) hf
def f_X5_mixInto_65 (x3 : Int64) (T : Tw)  : Option Int64 :=
  lett (0 : Int32) fun x5_66 =>
  l_X5_mixInto_68 T (fun x3 => f_X5_mixInto_158 x3 T) FU x3 x5_66
set_option maxHeartbeats 4000000 in
set_option maxRecDepth 100000 in
theorem b_X5_mixInto_65 {p : Program} {l : Launch} {e : Env} {s : State} {m : MethodId} {args : Array Value} {below : List Frame} {meth : Method} {c : Code} {Q : State → Prop} {dC : Nat → ClassId} {dI : Nat → Nat → Nat} {cs : Nat → ClassId} {a : Nat → Nat} {res : Int64} (C : CallFix p m c cX5_mixInto 6 s args wsX5_mixInto RX5) (G : GE dC dI cs s) (hR : RPl p l e ({ frames := 0, cells := 0, slots := 0, locals := 0 }) s m args below meth c cX5_mixInto Q res) {T : Tw} (hP : va_P (dC, dI) vwCl (wT cs a T) s.heap) (x3 : Int64) (_ : Tw)   (ls : Array Slot) (hl : lv_has ls 6 [(0, .ref (a 0)), (3, .long (x3))]) (hf : f_X5_mixInto_65 x3 T = some res) : W p l e ({ frames := 0, cells := 0, slots := 0, locals := 0 }) s m args below meth c s.heap [] 0 0 Q (F0 m 65 ls []) := by
  obtain ⟨hx, hb, hml, hown, hts⟩ := id C
  obtain ⟨hK, hN⟩ := id G
  unfold f_X5_mixInto_65 at hf
  refine lv_iconst (v := 0) hx hb dX5_mixInto_65 (by decide) ?_
  refine lv_topi (fun x5_66 ex5_66 => ?_)
  replace hf := lett_s ex5_66 hf
  refine lv_istore (lv' := [(5, .int (x5_66)), (0, .ref (a 0)), (3, .long (x3))]) hx hb dX5_mixInto_66 hl (by decide) rfl (fun ls hl => ?_)
  exact w_X5_mixInto_68 C G hR hP T (fun x3 ls hl hf => b_X5_mixInto_158 C G hR hP x3 T _ hl hf) FU x3 x5_66 _ (lv_sub hl [1, 2, 0] rfl) hf
def f_X5_mixInto (x1 : Int64) (T : Tw) : Option Int64 :=
  lett (0 : Int32) fun x5_3 =>
  l_X5_mixInto_5 T (fun x3 => f_X5_mixInto_65 x3 T) FU x1 x5_3
set_option maxHeartbeats 4000000 in
set_option maxRecDepth 100000 in
theorem c_X5_mixInto (l : Launch) (dC : Nat → ClassId) (dI : Nat → Nat → Nat) (cs : Nat → ClassId) (a : Nat → Nat) (T : Tw) (x1 : Int64) (res : Int64) (hf : f_X5_mixInto x1 T = some res) : Met l yX5_mixInto wsX5_mixInto ({ frames := 0, cells := 0, slots := 0, locals := 0 }) (va_Pc [.ref (a 0), .long (x1)] (fun U => va_P (dC, dI) vwCl (wT cs a T) U.heap ∧ GE dC dI cs U)) (vp_Sl (fun r => r = res)) 0 0 (fun _ => False) := by
  refine Met.ofW (cc := cX5_mixInto) (maxL := 6) (ret := (some .long)) (by decide) rfl ?_
  intro p e s m args below meth c s₁ B hml hv
  obtain ⟨rfl, hP, G⟩ := hv
  have hts := atoms_spec (ws := wsX5_mixInto) B.pre
  have hown : s.vm.findClass RX5 = some m.cls := findClass_of_methodNamed B.named
  have hlocks := B.notSynchronized
  have hx := B.exec
  have hb := B.bytes
  have hr := B.returns
  have C : CallFix p m c cX5_mixInto 6 s _ wsX5_mixInto RX5 := ⟨hx, hb, hml, hown, hts⟩
  obtain ⟨hK, hN⟩ := id G
  have hR : RPl p l e ({ frames := 0, cells := 0, slots := 0, locals := 0 }) s m ([.ref (a 0), .long (x1)] : List Value).toArray below meth c cX5_mixInto (MQ below (vp_Sl (fun r => r = res)) ([.ref (a 0), .long (x1)] : List Value).toArray s 0 0 (fun _ => False)) res := fun pc ls r dd h => W.lret hx hb hr (fun t ht hW => ⟨r, rfl, Option.some.inj h, ht⟩) (fun q hq => by cases hq) dd
  have hl := lv_entry ([.ref (a 0), .long (x1)]) (n := 6) (Nat.le_of_ble_eq_true rfl)
  rw [lg_entry_eq]
  generalize (lg_sl ([.ref (a 0), .long (x1)]) ++ List.replicate (6 - (lg_sl ([.ref (a 0), .long (x1)])).length) Slot.unset).toArray = ls at hl ⊢
  have hl : lv_has ls 6 [(0, .ref (a 0)), (1, .long (x1))] := hl
  unfold f_X5_mixInto at hf
  refine lv_lload_n hx hb dX5_mixInto_0 rfl (lv_at hl 1 rfl) ?_
  refine lv_lstore_n (lv' := [(3, .long (x1)), (0, .ref (a 0)), (1, .long (x1))]) hx hb dX5_mixInto_1 rfl hl (by decide) rfl (fun ls hl => ?_)
  refine lv_iconst (v := 0) hx hb dX5_mixInto_2 (by decide) ?_
  refine lv_topi (fun x5_3 ex5_3 => ?_)
  replace hf := lett_s ex5_3 hf
  refine lv_istore (lv' := [(5, .int (x5_3)), (3, .long (x1)), (0, .ref (a 0)), (1, .long (x1))]) hx hb dX5_mixInto_3 hl (by decide) rfl (fun ls hl => ?_)
  exact w_X5_mixInto_5 C G hR hP T (fun x3 ls hl hf => b_X5_mixInto_65 C G hR hP x3 T _ hl hf) FU x1 x5_3 _ (lv_sub hl [2, 1, 0] rfl) hf

