theorem in_X3_forget_X3 : ∀ w ∈ wsX30, w ∈ wsX3_forget := by decide +kernel
def f_X3_forget  (P : Ps) : Option Ps :=
  lett (((0 : Int32), P.2)) fun P_2 =>
  some P_2
set_option maxHeartbeats 4000000 in
set_option maxRecDepth 100000 in
theorem c_X3_forget (l : Launch) (dC : Nat → ClassId) (dI : Nat → Nat → Nat) (cs : Nat → ClassId) (a : Nat → Nat) (sz : Nat) (P : Ps)  (res : Ps) (hf : f_X3_forget P = some res) : Met l yX3_forget wsX3_forget ({ frames := 0, cells := 0, slots := 0, locals := 0 }) (va_Pc [.ref (a 0)] (fun U => U.heap.size = sz ∧ va_P (dC, dI) vwCl (wP cs a P) U.heap ∧ GE dC dI cs U ∧ va_D (fun _ => True) (wP cs a P))) (va_Qv (fun u : Ps => u = res) (fun u t => va_P (dC, dI) vwCl ((fun u : Ps => (wP cs a u)) u) t.heap ∧ va_D (va_A (wP cs a P) sz) ((fun u : Ps => (wP cs a u)) u)) (va_A (wP cs a P) sz)) 0 0 (va_A (wP cs a P) sz) := by
  refine Met.ofW (cc := cX3_forget) (maxL := 1) (ret := none) (by decide) rfl ?_
  intro p e s m args below meth c s₁ B hml hv
  obtain ⟨rfl, hsz, hP, G, hD0⟩ := hv
  have hts := atoms_spec (ws := wsX3_forget) B.pre
  have hown : s.vm.findClass RX3 = some m.cls := findClass_of_methodNamed B.named
  have hlocks := B.notSynchronized
  have hx := B.exec
  have hb := B.bytes
  have hr := B.returns
  have C : CallFix p m c cX3_forget 1 s _ wsX3_forget RX3 := ⟨hx, hb, hml, hown, hts⟩
  obtain ⟨hK, hN⟩ := id G
  subst hsz
  have hD := hD0.self (sz := s.heap.size)
  generalize hAe : va_A (wP cs a P) s.heap.size = A at hD ⊢
  have hA : ∀ q : Nat, s.heap.size ≤ q → A q := fun q h => by rw [← hAe]; exact Or.inr h
  have hS : va_S A s.heap s.heap [] := va_S.rf
  have hR : RTv p l e ({ frames := 0, cells := 0, slots := 0, locals := 0 }) s m ([.ref (a 0)] : List Value).toArray below meth c cX3_forget (MQ below (va_Qv (fun u : Ps => u = res) (fun u t => va_P (dC, dI) vwCl ((fun u : Ps => (wP cs a u)) u) t.heap ∧ va_D A ((fun u : Ps => (wP cs a u)) u)) A) ([.ref (a 0)] : List Value).toArray s 0 0 A) (dC, dI) A (fun u : Ps => (wP cs a u)) res := fun H locs pc ls u dd h hP hD hS => W.vret hx hb hr (fun t ht hW => ⟨⟨u, rfl, by cases h; rfl, by rw [ht]; exact hP, hD⟩, hS.F ht⟩) hS.2.2 dd
  have hl := lv_entry ([.ref (a 0)]) (n := 1) (Nat.le_of_ble_eq_true rfl)
  rw [lg_entry_eq]
  generalize (lg_sl ([.ref (a 0)]) ++ List.replicate (1 - (lg_sl ([.ref (a 0)])).length) Slot.unset).toArray = ls at hl ⊢
  have hl : lv_has ls 1 [(0, .ref (a 0))] := hl
  unfold f_X3_forget at hf
  refine lv_aload_n hx hb dX3_forget_0 rfl (lv_at hl 0 rfl) ?_
  refine lv_iconst (v := 0) hx hb dX3_forget_1 (by decide) ?_
  refine va_put (D := (dC, dI)) (ci := 3) (v := .int ((0 : Int32))) (ty := .int) (C := RX3) (T := TX3) (N := 2) hx hb hts in_X3_forget_X3 tyX3 tyX3_ok nmX3 hown hK hP hD hS 0 rfl rfl 0 (by decide) (hts (.fieldLink RX3 15 "BackLoans$Past" "kept" "I") (by decide +kernel)) (fun _ h9 => h9) rfl (by decide +kernel) rfl rfl (Nat.le_of_ble_eq_true rfl) dX3_forget_2 (fun H locs hP hD hS => ?_)
  obtain ⟨P_2, hP, hD, hf⟩ := st_nm (ws := fun P_2 : Ps => (wP cs a P_2)) (((0 : Int32), P.2)) hP hD hf
  exact hR _ _ _ _ _ dX3_forget_5 hf hP hD hS

theorem in_X3_copyFrom_X3 : ∀ w ∈ wsX30, w ∈ wsX3_copyFrom := by decide +kernel
def f_X3_copyFrom  (P : Ps) (O : Ps) : Option Ps :=
  lett ((O.1, P.2)) fun P_5 =>
  gc ((0 : Int32)) ((0 : Int32)) ((280 : Int32)) 280 280 <|
  lett ((P_5.1, va_cpy O.2 P_5.2 ((0 : Int32)).toNatClampNeg ((0 : Int32)).toNatClampNeg ((280 : Int32)).toNatClampNeg)) fun P_21 =>
  some P_21
set_option maxHeartbeats 4000000 in
set_option maxRecDepth 100000 in
theorem c_X3_copyFrom (l : Launch) (dC : Nat → ClassId) (dI : Nat → Nat → Nat) (cs : Nat → ClassId) (a : Nat → Nat) (b : Nat → Nat) (sz : Nat) (P : Ps) (O : Ps)  (res : Ps) (hf : f_X3_copyFrom P O = some res) : Met l yX3_copyFrom wsX3_copyFrom ({ frames := 1, cells := 0, slots := 0, locals := 26 }) (va_Pc [.ref (a 0), .ref (b 0)] (fun U => U.heap.size = sz ∧ va_P (dC, dI) vwCl (wP cs a P ++ wP cs b O) U.heap ∧ GE dC dI cs U ∧ va_D (fun _ => True) (wP cs a P ++ wP cs b O))) (va_Qv (fun u : Ps => u = res) (fun u t => va_P (dC, dI) vwCl ((fun u : Ps => (wP cs a u ++ wP cs b O)) u) t.heap ∧ va_D (va_A (wP cs a P ++ wP cs b O) sz) ((fun u : Ps => (wP cs a u ++ wP cs b O)) u)) (va_A (wP cs a P ++ wP cs b O) sz)) 0 0 (va_A (wP cs a P ++ wP cs b O) sz) := by
  refine Met.ofW (cc := cX3_copyFrom) (maxL := 2) (ret := none) (by decide) rfl ?_
  intro p e s m args below meth c s₁ B hml hv
  obtain ⟨rfl, hsz, hP, G, hD0⟩ := hv
  have hts := atoms_spec (ws := wsX3_copyFrom) B.pre
  have hown : s.vm.findClass RX3 = some m.cls := findClass_of_methodNamed B.named
  have hlocks := B.notSynchronized
  have hx := B.exec
  have hb := B.bytes
  have hr := B.returns
  have C : CallFix p m c cX3_copyFrom 2 s _ wsX3_copyFrom RX3 := ⟨hx, hb, hml, hown, hts⟩
  obtain ⟨hK, hN⟩ := id G
  subst hsz
  have hD := hD0.self (sz := s.heap.size)
  generalize hAe : va_A (wP cs a P ++ wP cs b O) s.heap.size = A at hD ⊢
  have hA : ∀ q : Nat, s.heap.size ≤ q → A q := fun q h => by rw [← hAe]; exact Or.inr h
  have hS : va_S A s.heap s.heap [] := va_S.rf
  have hR : RTv p l e ({ frames := 1, cells := 0, slots := 0, locals := 26 }) s m ([.ref (a 0), .ref (b 0)] : List Value).toArray below meth c cX3_copyFrom (MQ below (va_Qv (fun u : Ps => u = res) (fun u t => va_P (dC, dI) vwCl ((fun u : Ps => (wP cs a u ++ wP cs b O)) u) t.heap ∧ va_D A ((fun u : Ps => (wP cs a u ++ wP cs b O)) u)) A) ([.ref (a 0), .ref (b 0)] : List Value).toArray s 0 0 A) (dC, dI) A (fun u : Ps => (wP cs a u ++ wP cs b O)) res := fun H locs pc ls u dd h hP hD hS => W.vret hx hb hr (fun t ht hW => ⟨⟨u, rfl, by cases h; rfl, by rw [ht]; exact hP, hD⟩, hS.F ht⟩) hS.2.2 dd
  have hl := lv_entry ([.ref (a 0), .ref (b 0)]) (n := 2) (Nat.le_of_ble_eq_true rfl)
  rw [lg_entry_eq]
  generalize (lg_sl ([.ref (a 0), .ref (b 0)]) ++ List.replicate (2 - (lg_sl ([.ref (a 0), .ref (b 0)])).length) Slot.unset).toArray = ls at hl ⊢
  have hl : lv_has ls 2 [(0, .ref (a 0)), (1, .ref (b 0))] := hl
  unfold f_X3_copyFrom at hf
  refine lv_aload_n hx hb dX3_copyFrom_0 rfl (lv_at hl 0 rfl) ?_
  refine lv_aload_n hx hb dX3_copyFrom_1 rfl (lv_at hl 1 rfl) ?_
  refine va_get (D := (dC, dI)) (ci := 3) (v := .int (O.1)) (C := RX3) (T := TX3) (N := 2) hx hb hts in_X3_copyFrom_X3 hown hK hP 2 rfl rfl 0 (by decide) (hts (.fieldLink RX3 15 "BackLoans$Past" "kept" "I") (by decide +kernel)) (fun _ h9 => h9) rfl dX3_copyFrom_2 ?_
  refine va_put (D := (dC, dI)) (ci := 3) (v := .int (O.1)) (ty := .int) (C := RX3) (T := TX3) (N := 2) hx hb hts in_X3_copyFrom_X3 tyX3 tyX3_ok nmX3 hown hK hP hD hS 0 rfl rfl 0 (by decide) (hts (.fieldLink RX3 15 "BackLoans$Past" "kept" "I") (by decide +kernel)) (fun _ h9 => h9) rfl (by decide +kernel) rfl rfl (Nat.le_of_ble_eq_true rfl) dX3_copyFrom_5 (fun H locs hP hD hS => ?_)
  obtain ⟨P_5, hP, hD, hf⟩ := st_nm (ws := fun P_5 : Ps => (wP cs a P_5 ++ wP cs b O)) ((O.1, P.2)) hP hD hf
  refine lv_aload_n hx hb dX3_copyFrom_8 rfl (lv_at hl 1 rfl) ?_
  refine va_get (D := (dC, dI)) (ci := 3) (v := .ref (b 1)) (C := RX3) (T := TX3) (N := 2) hx hb hts in_X3_copyFrom_X3 hown hK hP 2 rfl rfl 1 (by decide) (hts (.fieldLink RX3 11 "BackLoans$Past" "row" "[I") (by decide +kernel)) (fun _ h9 => h9) rfl dX3_copyFrom_9 ?_
  refine lv_iconst (v := 0) hx hb dX3_copyFrom_12 (by decide) ?_
  refine lv_aload_n hx hb dX3_copyFrom_13 rfl (lv_at hl 0 rfl) ?_
  refine va_get (D := (dC, dI)) (ci := 3) (v := .ref (a 1)) (C := RX3) (T := TX3) (N := 2) hx hb hts in_X3_copyFrom_X3 hown hK hP 0 rfl rfl 1 (by decide) (hts (.fieldLink RX3 11 "BackLoans$Past" "row" "[I") (by decide +kernel)) (fun _ h9 => h9) rfl dX3_copyFrom_14 ?_
  refine lv_iconst (v := 0) hx hb dX3_copyFrom_17 (by decide) ?_
  refine lv_sipush (v := 280) hx hb dX3_copyFrom_18 (by decide) ?_
  obtain ⟨⟨h1_1, h2_1, h3_1, h4_1, h5_1⟩, hf⟩ := gc_e hf
  refine va_copyi hx hb (hml.trans hl.1.symm) hown (hts (.methodLink RX3 19 arraycopyName) (by decide +kernel)) (hts (.native arraycopyName) (by decide +kernel)) (hts (.static arraycopyName) (by decide +kernel)) (hts (.initialized "java/lang/System") (by decide +kernel)) hK hP hD hS 3 1 0 0 rfl rfl rfl rfl rfl h1_1 h2_1 h3_1 h4_1 h5_1 (fun _ _ => rfl) (Nat.le_of_ble_eq_true rfl) (by decide) dX3_copyFrom_21 (fun H locs hP hD hS => ?_)
  obtain ⟨P_21, hP, hD, hf⟩ := st_nm (ws := fun P_21 : Ps => (wP cs a P_21 ++ wP cs b O)) ((P_5.1, va_cpy O.2 P_5.2 ((0 : Int32)).toNatClampNeg ((0 : Int32)).toNatClampNeg ((280 : Int32)).toNatClampNeg)) hP hD hf
  exact hR _ _ _ _ _ dX3_copyFrom_24 hf hP hD hS

theorem in_X3_keep_X3 : ∀ w ∈ wsX30, w ∈ wsX3_keep := by decide +kernel
theorem in_X3_keep_X5 : ∀ w ∈ wsX50, w ∈ wsX3_keep := by decide +kernel
def f_X3_keep_32 (P : Ps) (T : Tw)  : Option Ps :=
  lett (P.1 * (35 : Int32)) fun x2_39 =>
  gi (x2_39) 280 <|
  lett ((P.1, upd P.2 (x2_39).toNatClampNeg ((T.1 0)))) fun P_49 =>
  gi ((x2_39 + (1 : Int32))) 280 <|
  lett ((P_49.1, upd P_49.2 ((x2_39 + (1 : Int32))).toNatClampNeg ((T.1 3)))) fun P_61 =>
  gi ((x2_39 + (2 : Int32))) 280 <|
  lett ((P_61.1, upd P_61.2 ((x2_39 + (2 : Int32))).toNatClampNeg ((T.1 2)))) fun P_73 =>
  gi ((x2_39 + (3 : Int32))) 280 <|
  lett ((P_73.1, upd P_73.2 ((x2_39 + (3 : Int32))).toNatClampNeg ((T.1 4)))) fun P_85 =>
  gi ((x2_39 + (4 : Int32))) 280 <|
  lett ((P_85.1, upd P_85.2 ((x2_39 + (4 : Int32))).toNatClampNeg ((T.1 5)))) fun P_97 =>
  gc ((0 : Int32)) ((x2_39 + (5 : Int32))) ((6 : Int32)) 6 280 <|
  lett ((P_97.1, va_cpy (T.2 2) P_97.2 ((0 : Int32)).toNatClampNeg ((x2_39 + (5 : Int32))).toNatClampNeg ((6 : Int32)).toNatClampNeg)) fun P_112 =>
  gc ((0 : Int32)) ((x2_39 + (11 : Int32))) ((8 : Int32)) 8 280 <|
  lett ((P_112.1, va_cpy (T.2 3) P_112.2 ((0 : Int32)).toNatClampNeg ((x2_39 + (11 : Int32))).toNatClampNeg ((8 : Int32)).toNatClampNeg)) fun P_130 =>
  gc ((0 : Int32)) ((x2_39 + (19 : Int32))) ((8 : Int32)) 8 280 <|
  lett ((P_130.1, va_cpy (T.2 6) P_130.2 ((0 : Int32)).toNatClampNeg ((x2_39 + (19 : Int32))).toNatClampNeg ((8 : Int32)).toNatClampNeg)) fun P_148 =>
  gc ((0 : Int32)) ((x2_39 + (27 : Int32))) ((8 : Int32)) 8 280 <|
  lett ((P_148.1, va_cpy (T.2 7) P_148.2 ((0 : Int32)).toNatClampNeg ((x2_39 + (27 : Int32))).toNatClampNeg ((8 : Int32)).toNatClampNeg)) fun P_166 =>
  lett (((P_166.1 + (1 : Int32)), P_166.2)) fun P_176 =>
  some P_176
set_option maxHeartbeats 4000000 in
set_option maxRecDepth 100000 in
theorem b_X3_keep_32 {p : Program} {l : Launch} {e : Env} {s : State} {m : MethodId} {args : Array Value} {below : List Frame} {meth : Method} {c : Code} {Q : State → Prop} {dC : Nat → ClassId} {dI : Nat → Nat → Nat} {cs : Nat → ClassId} {A : Nat → Prop} {a : Nat → Nat} {b : Nat → Nat} {res : Ps} (C : CallFix p m c cX3_keep 3 s args wsX3_keep RX3) (G : GE dC dI cs s) (hA : ∀ q : Nat, s.heap.size ≤ q → A q) {T : Tw} (hR : RTv p l e ({ frames := 1, cells := 0, slots := 0, locals := 26 }) s m args below meth c cX3_keep Q (dC, dI) A (fun u : Ps => (wP cs a u ++ wT cs b T)) res) (P : Ps) (_ : Tw)   (H : Heap) (locs : List Loc) (ls : Array Slot) (hl : lv_has ls 3 [(0, .ref (a 0)), (1, .ref (b 0))]) (hP : va_P (dC, dI) vwCl (wP cs a P ++ wT cs b T) H) (hD : va_D A (wP cs a P ++ wT cs b T)) (hS : va_S A s.heap H locs) (hf : f_X3_keep_32 P T = some res) : W p l e ({ frames := 1, cells := 0, slots := 0, locals := 26 }) s m args below meth c H locs 0 0 Q (F0 m 32 ls []) := by
  obtain ⟨hx, hb, hml, hown, hts⟩ := id C
  obtain ⟨hK, hN⟩ := id G
  unfold f_X3_keep_32 at hf
  refine lv_aload_n hx hb dX3_keep_32 rfl (lv_at hl 0 rfl) ?_
  refine va_get (D := (dC, dI)) (ci := 3) (v := .int (P.1)) (C := RX3) (T := TX3) (N := 2) hx hb hts in_X3_keep_X3 hown hK hP 0 rfl rfl 0 (by decide) (hts (.fieldLink RX3 15 "BackLoans$Past" "kept" "I") (by decide +kernel)) (fun _ h9 => h9) rfl dX3_keep_33 ?_
  refine lv_bipush (v := 35) hx hb dX3_keep_36 (by decide) ?_
  refine lv_imul hx hb dX3_keep_38 ?_
  refine lv_topi (fun x2_39 ex2_39 => ?_)
  replace hf := lett_s ex2_39 hf
  refine lv_istore_n (lv' := [(2, .int (x2_39)), (0, .ref (a 0)), (1, .ref (b 0))]) hx hb dX3_keep_39 rfl hl (by decide) rfl (fun ls hl => ?_)
  refine lv_aload_n hx hb dX3_keep_40 rfl (lv_at hl 1 rfl) ?_
  refine va_get (D := (dC, dI)) (ci := 3) (v := .ref (a 1)) (C := RX3) (T := TX3) (N := 2) hx hb hts in_X3_keep_X3 hown hK hP 0 rfl rfl 1 (by decide) (hts (.fieldLink RX3 11 "BackLoans$Past" "row" "[I") (by decide +kernel)) (fun _ h9 => h9) rfl dX3_keep_41 ?_
  refine lv_iload_n hx hb dX3_keep_44 rfl (lv_at hl 0 rfl) ?_
  refine lv_aload_n hx hb dX3_keep_45 rfl (lv_at hl 2 rfl) ?_
  refine va_get (D := (dC, dI)) (ci := 5) (v := .int ((T.1 0))) (C := RX5) (T := TX5) (N := 17) hx hb hts in_X3_keep_X5 hown hK hP 2 rfl rfl 0 (by decide) (hts (.fieldLink RX3 25 "BackLoans$Town" "chest" "I") (by decide +kernel)) (fun _ h9 => h9) rfl dX3_keep_46 ?_
  obtain ⟨hi1, hf⟩ := gi_e hf
  refine va_iast hx hb hK hP hD hS 1 0 rfl rfl hi1 dX3_keep_49 (fun H locs hP hD hS => ?_)
  obtain ⟨P_49, hP, hD, hf⟩ := st_nm (ws := fun P_49 : Ps => (wP cs a P_49 ++ wT cs b T)) ((P.1, upd P.2 (x2_39).toNatClampNeg ((T.1 0)))) hP hD hf
  refine lv_aload_n hx hb dX3_keep_50 rfl (lv_at hl 1 rfl) ?_
  refine va_get (D := (dC, dI)) (ci := 3) (v := .ref (a 1)) (C := RX3) (T := TX3) (N := 2) hx hb hts in_X3_keep_X3 hown hK hP 0 rfl rfl 1 (by decide) (hts (.fieldLink RX3 11 "BackLoans$Past" "row" "[I") (by decide +kernel)) (fun _ h9 => h9) rfl dX3_keep_51 ?_
  refine lv_iload_n hx hb dX3_keep_54 rfl (lv_at hl 0 rfl) ?_
  refine lv_iconst (v := 1) hx hb dX3_keep_55 (by decide) ?_
  refine lv_iadd hx hb dX3_keep_56 ?_
  refine lv_aload_n hx hb dX3_keep_57 rfl (lv_at hl 2 rfl) ?_
  refine va_get (D := (dC, dI)) (ci := 5) (v := .int ((T.1 3))) (C := RX5) (T := TX5) (N := 17) hx hb hts in_X3_keep_X5 hown hK hP 2 rfl rfl 3 (by decide) (hts (.fieldLink RX3 30 "BackLoans$Town" "lacks" "I") (by decide +kernel)) (fun _ h9 => h9) rfl dX3_keep_58 ?_
  obtain ⟨hi2, hf⟩ := gi_e hf
  refine va_iast hx hb hK hP hD hS 1 0 rfl rfl hi2 dX3_keep_61 (fun H locs hP hD hS => ?_)
  obtain ⟨P_61, hP, hD, hf⟩ := st_nm (ws := fun P_61 : Ps => (wP cs a P_61 ++ wT cs b T)) ((P_49.1, upd P_49.2 ((x2_39 + (1 : Int32))).toNatClampNeg ((T.1 3)))) hP hD hf
  refine lv_aload_n hx hb dX3_keep_62 rfl (lv_at hl 1 rfl) ?_
  refine va_get (D := (dC, dI)) (ci := 3) (v := .ref (a 1)) (C := RX3) (T := TX3) (N := 2) hx hb hts in_X3_keep_X3 hown hK hP 0 rfl rfl 1 (by decide) (hts (.fieldLink RX3 11 "BackLoans$Past" "row" "[I") (by decide +kernel)) (fun _ h9 => h9) rfl dX3_keep_63 ?_
  refine lv_iload_n hx hb dX3_keep_66 rfl (lv_at hl 0 rfl) ?_
  refine lv_iconst (v := 2) hx hb dX3_keep_67 (by decide) ?_
  refine lv_iadd hx hb dX3_keep_68 ?_
  refine lv_aload_n hx hb dX3_keep_69 rfl (lv_at hl 2 rfl) ?_
  refine va_get (D := (dC, dI)) (ci := 5) (v := .int ((T.1 2))) (C := RX5) (T := TX5) (N := 17) hx hb hts in_X3_keep_X5 hown hK hP 2 rfl rfl 2 (by decide) (hts (.fieldLink RX3 33 "BackLoans$Town" "month" "I") (by decide +kernel)) (fun _ h9 => h9) rfl dX3_keep_70 ?_
  obtain ⟨hi3, hf⟩ := gi_e hf
  refine va_iast hx hb hK hP hD hS 1 0 rfl rfl hi3 dX3_keep_73 (fun H locs hP hD hS => ?_)
  obtain ⟨P_73, hP, hD, hf⟩ := st_nm (ws := fun P_73 : Ps => (wP cs a P_73 ++ wT cs b T)) ((P_61.1, upd P_61.2 ((x2_39 + (2 : Int32))).toNatClampNeg ((T.1 2)))) hP hD hf
  refine lv_aload_n hx hb dX3_keep_74 rfl (lv_at hl 1 rfl) ?_
  refine va_get (D := (dC, dI)) (ci := 3) (v := .ref (a 1)) (C := RX3) (T := TX3) (N := 2) hx hb hts in_X3_keep_X3 hown hK hP 0 rfl rfl 1 (by decide) (hts (.fieldLink RX3 11 "BackLoans$Past" "row" "[I") (by decide +kernel)) (fun _ h9 => h9) rfl dX3_keep_75 ?_
  refine lv_iload_n hx hb dX3_keep_78 rfl (lv_at hl 0 rfl) ?_
  refine lv_iconst (v := 3) hx hb dX3_keep_79 (by decide) ?_
  refine lv_iadd hx hb dX3_keep_80 ?_
  refine lv_aload_n hx hb dX3_keep_81 rfl (lv_at hl 2 rfl) ?_
  refine va_get (D := (dC, dI)) (ci := 5) (v := .int ((T.1 4))) (C := RX5) (T := TX5) (N := 17) hx hb hts in_X3_keep_X5 hown hK hP 2 rfl rfl 4 (by decide) (hts (.fieldLink RX3 36 "BackLoans$Town" "people" "I") (by decide +kernel)) (fun _ h9 => h9) rfl dX3_keep_82 ?_
  obtain ⟨hi4, hf⟩ := gi_e hf
  refine va_iast hx hb hK hP hD hS 1 0 rfl rfl hi4 dX3_keep_85 (fun H locs hP hD hS => ?_)
  obtain ⟨P_85, hP, hD, hf⟩ := st_nm (ws := fun P_85 : Ps => (wP cs a P_85 ++ wT cs b T)) ((P_73.1, upd P_73.2 ((x2_39 + (3 : Int32))).toNatClampNeg ((T.1 4)))) hP hD hf
  refine lv_aload_n hx hb dX3_keep_86 rfl (lv_at hl 1 rfl) ?_
  refine va_get (D := (dC, dI)) (ci := 3) (v := .ref (a 1)) (C := RX3) (T := TX3) (N := 2) hx hb hts in_X3_keep_X3 hown hK hP 0 rfl rfl 1 (by decide) (hts (.fieldLink RX3 11 "BackLoans$Past" "row" "[I") (by decide +kernel)) (fun _ h9 => h9) rfl dX3_keep_87 ?_
  refine lv_iload_n hx hb dX3_keep_90 rfl (lv_at hl 0 rfl) ?_
  refine lv_iconst (v := 4) hx hb dX3_keep_91 (by decide) ?_
  refine lv_iadd hx hb dX3_keep_92 ?_
  refine lv_aload_n hx hb dX3_keep_93 rfl (lv_at hl 2 rfl) ?_
  refine va_get (D := (dC, dI)) (ci := 5) (v := .int ((T.1 5))) (C := RX5) (T := TX5) (N := 17) hx hb hts in_X3_keep_X5 hown hK hP 2 rfl rfl 5 (by decide) (hts (.fieldLink RX3 39 "BackLoans$Town" "loans" "I") (by decide +kernel)) (fun _ h9 => h9) rfl dX3_keep_94 ?_
  obtain ⟨hi5, hf⟩ := gi_e hf
  refine va_iast hx hb hK hP hD hS 1 0 rfl rfl hi5 dX3_keep_97 (fun H locs hP hD hS => ?_)
  obtain ⟨P_97, hP, hD, hf⟩ := st_nm (ws := fun P_97 : Ps => (wP cs a P_97 ++ wT cs b T)) ((P_85.1, upd P_85.2 ((x2_39 + (4 : Int32))).toNatClampNeg ((T.1 5)))) hP hD hf
  refine lv_aload_n hx hb dX3_keep_98 rfl (lv_at hl 2 rfl) ?_
  refine va_get (D := (dC, dI)) (ci := 5) (v := .ref (b 3)) (C := RX5) (T := TX5) (N := 17) hx hb hts in_X3_keep_X5 hown hK hP 2 rfl rfl 9 (by decide) (hts (.fieldLink RX3 42 "BackLoans$Town" "purse" "[I") (by decide +kernel)) (fun _ h9 => h9) rfl dX3_keep_99 ?_
  refine lv_iconst (v := 0) hx hb dX3_keep_102 (by decide) ?_
  refine lv_aload_n hx hb dX3_keep_103 rfl (lv_at hl 1 rfl) ?_
  refine va_get (D := (dC, dI)) (ci := 3) (v := .ref (a 1)) (C := RX3) (T := TX3) (N := 2) hx hb hts in_X3_keep_X3 hown hK hP 0 rfl rfl 1 (by decide) (hts (.fieldLink RX3 11 "BackLoans$Past" "row" "[I") (by decide +kernel)) (fun _ h9 => h9) rfl dX3_keep_104 ?_
  refine lv_iload_n hx hb dX3_keep_107 rfl (lv_at hl 0 rfl) ?_
  refine lv_iconst (v := 5) hx hb dX3_keep_108 (by decide) ?_
  refine lv_iadd hx hb dX3_keep_109 ?_
  refine lv_bipush (v := 6) hx hb dX3_keep_110 (by decide) ?_
  obtain ⟨⟨h1_6, h2_6, h3_6, h4_6, h5_6⟩, hf⟩ := gc_e hf
  refine va_copyi hx hb (hml.trans hl.1.symm) hown (hts (.methodLink RX3 19 arraycopyName) (by decide +kernel)) (hts (.native arraycopyName) (by decide +kernel)) (hts (.static arraycopyName) (by decide +kernel)) (hts (.initialized "java/lang/System") (by decide +kernel)) hK hP hD hS 5 1 0 0 rfl rfl rfl rfl rfl h1_6 h2_6 h3_6 h4_6 h5_6 (fun _ _ => rfl) (Nat.le_of_ble_eq_true rfl) (by decide) dX3_keep_112 (fun H locs hP hD hS => ?_)
  obtain ⟨P_112, hP, hD, hf⟩ := st_nm (ws := fun P_112 : Ps => (wP cs a P_112 ++ wT cs b T)) ((P_97.1, va_cpy (T.2 2) P_97.2 ((0 : Int32)).toNatClampNeg ((x2_39 + (5 : Int32))).toNatClampNeg ((6 : Int32)).toNatClampNeg)) hP hD hf
  refine lv_aload_n hx hb dX3_keep_115 rfl (lv_at hl 2 rfl) ?_
  refine va_get (D := (dC, dI)) (ci := 5) (v := .ref (b 4)) (C := RX5) (T := TX5) (N := 17) hx hb hts in_X3_keep_X5 hown hK hP 2 rfl rfl 10 (by decide) (hts (.fieldLink RX3 45 "BackLoans$Town" "owner" "[I") (by decide +kernel)) (fun _ h9 => h9) rfl dX3_keep_116 ?_
  refine lv_iconst (v := 0) hx hb dX3_keep_119 (by decide) ?_
  refine lv_aload_n hx hb dX3_keep_120 rfl (lv_at hl 1 rfl) ?_
  refine va_get (D := (dC, dI)) (ci := 3) (v := .ref (a 1)) (C := RX3) (T := TX3) (N := 2) hx hb hts in_X3_keep_X3 hown hK hP 0 rfl rfl 1 (by decide) (hts (.fieldLink RX3 11 "BackLoans$Past" "row" "[I") (by decide +kernel)) (fun _ h9 => h9) rfl dX3_keep_121 ?_
  refine lv_iload_n hx hb dX3_keep_124 rfl (lv_at hl 0 rfl) ?_
  refine lv_bipush (v := 11) hx hb dX3_keep_125 (by decide) ?_
  refine lv_iadd hx hb dX3_keep_127 ?_
  refine lv_bipush (v := 8) hx hb dX3_keep_128 (by decide) ?_
  obtain ⟨⟨h1_7, h2_7, h3_7, h4_7, h5_7⟩, hf⟩ := gc_e hf
  refine va_copyi hx hb (hml.trans hl.1.symm) hown (hts (.methodLink RX3 19 arraycopyName) (by decide +kernel)) (hts (.native arraycopyName) (by decide +kernel)) (hts (.static arraycopyName) (by decide +kernel)) (hts (.initialized "java/lang/System") (by decide +kernel)) hK hP hD hS 6 1 0 0 rfl rfl rfl rfl rfl h1_7 h2_7 h3_7 h4_7 h5_7 (fun _ _ => rfl) (Nat.le_of_ble_eq_true rfl) (by decide) dX3_keep_130 (fun H locs hP hD hS => ?_)
  obtain ⟨P_130, hP, hD, hf⟩ := st_nm (ws := fun P_130 : Ps => (wP cs a P_130 ++ wT cs b T)) ((P_112.1, va_cpy (T.2 3) P_112.2 ((0 : Int32)).toNatClampNeg ((x2_39 + (11 : Int32))).toNatClampNeg ((8 : Int32)).toNatClampNeg)) hP hD hf
  refine lv_aload_n hx hb dX3_keep_133 rfl (lv_at hl 2 rfl) ?_
  refine va_get (D := (dC, dI)) (ci := 5) (v := .ref (b 7)) (C := RX5) (T := TX5) (N := 17) hx hb hts in_X3_keep_X5 hown hK hP 2 rfl rfl 13 (by decide) (hts (.fieldLink RX3 48 "BackLoans$Town" "state" "[I") (by decide +kernel)) (fun _ h9 => h9) rfl dX3_keep_134 ?_
  refine lv_iconst (v := 0) hx hb dX3_keep_137 (by decide) ?_
  refine lv_aload_n hx hb dX3_keep_138 rfl (lv_at hl 1 rfl) ?_
  refine va_get (D := (dC, dI)) (ci := 3) (v := .ref (a 1)) (C := RX3) (T := TX3) (N := 2) hx hb hts in_X3_keep_X3 hown hK hP 0 rfl rfl 1 (by decide) (hts (.fieldLink RX3 11 "BackLoans$Past" "row" "[I") (by decide +kernel)) (fun _ h9 => h9) rfl dX3_keep_139 ?_
  refine lv_iload_n hx hb dX3_keep_142 rfl (lv_at hl 0 rfl) ?_
  refine lv_bipush (v := 19) hx hb dX3_keep_143 (by decide) ?_
  refine lv_iadd hx hb dX3_keep_145 ?_
  refine lv_bipush (v := 8) hx hb dX3_keep_146 (by decide) ?_
  obtain ⟨⟨h1_8, h2_8, h3_8, h4_8, h5_8⟩, hf⟩ := gc_e hf
  refine va_copyi hx hb (hml.trans hl.1.symm) hown (hts (.methodLink RX3 19 arraycopyName) (by decide +kernel)) (hts (.native arraycopyName) (by decide +kernel)) (hts (.static arraycopyName) (by decide +kernel)) (hts (.initialized "java/lang/System") (by decide +kernel)) hK hP hD hS 9 1 0 0 rfl rfl rfl rfl rfl h1_8 h2_8 h3_8 h4_8 h5_8 (fun _ _ => rfl) (Nat.le_of_ble_eq_true rfl) (by decide) dX3_keep_148 (fun H locs hP hD hS => ?_)
  obtain ⟨P_148, hP, hD, hf⟩ := st_nm (ws := fun P_148 : Ps => (wP cs a P_148 ++ wT cs b T)) ((P_130.1, va_cpy (T.2 6) P_130.2 ((0 : Int32)).toNatClampNeg ((x2_39 + (19 : Int32))).toNatClampNeg ((8 : Int32)).toNatClampNeg)) hP hD hf
  refine lv_aload_n hx hb dX3_keep_151 rfl (lv_at hl 2 rfl) ?_
  refine va_get (D := (dC, dI)) (ci := 5) (v := .ref (b 8)) (C := RX5) (T := TX5) (N := 17) hx hb hts in_X3_keep_X5 hown hK hP 2 rfl rfl 14 (by decide) (hts (.fieldLink RX3 51 "BackLoans$Town" "given" "[I") (by decide +kernel)) (fun _ h9 => h9) rfl dX3_keep_152 ?_
  refine lv_iconst (v := 0) hx hb dX3_keep_155 (by decide) ?_
  refine lv_aload_n hx hb dX3_keep_156 rfl (lv_at hl 1 rfl) ?_
  refine va_get (D := (dC, dI)) (ci := 3) (v := .ref (a 1)) (C := RX3) (T := TX3) (N := 2) hx hb hts in_X3_keep_X3 hown hK hP 0 rfl rfl 1 (by decide) (hts (.fieldLink RX3 11 "BackLoans$Past" "row" "[I") (by decide +kernel)) (fun _ h9 => h9) rfl dX3_keep_157 ?_
  refine lv_iload_n hx hb dX3_keep_160 rfl (lv_at hl 0 rfl) ?_
  refine lv_bipush (v := 27) hx hb dX3_keep_161 (by decide) ?_
  refine lv_iadd hx hb dX3_keep_163 ?_
  refine lv_bipush (v := 8) hx hb dX3_keep_164 (by decide) ?_
  obtain ⟨⟨h1_9, h2_9, h3_9, h4_9, h5_9⟩, hf⟩ := gc_e hf
  refine va_copyi hx hb (hml.trans hl.1.symm) hown (hts (.methodLink RX3 19 arraycopyName) (by decide +kernel)) (hts (.native arraycopyName) (by decide +kernel)) (hts (.static arraycopyName) (by decide +kernel)) (hts (.initialized "java/lang/System") (by decide +kernel)) hK hP hD hS 10 1 0 0 rfl rfl rfl rfl rfl h1_9 h2_9 h3_9 h4_9 h5_9 (fun _ _ => rfl) (Nat.le_of_ble_eq_true rfl) (by decide) dX3_keep_166 (fun H locs hP hD hS => ?_)
  obtain ⟨P_166, hP, hD, hf⟩ := st_nm (ws := fun P_166 : Ps => (wP cs a P_166 ++ wT cs b T)) ((P_148.1, va_cpy (T.2 7) P_148.2 ((0 : Int32)).toNatClampNeg ((x2_39 + (27 : Int32))).toNatClampNeg ((8 : Int32)).toNatClampNeg)) hP hD hf
  refine lv_aload_n hx hb dX3_keep_169 rfl (lv_at hl 1 rfl) ?_
  refine lv_dup hx hb dX3_keep_170 rfl ?_
  refine va_get (D := (dC, dI)) (ci := 3) (v := .int (P_166.1)) (C := RX3) (T := TX3) (N := 2) hx hb hts in_X3_keep_X3 hown hK hP 0 rfl rfl 0 (by decide) (hts (.fieldLink RX3 15 "BackLoans$Past" "kept" "I") (by decide +kernel)) (fun _ h9 => h9) rfl dX3_keep_171 ?_
  refine lv_iconst (v := 1) hx hb dX3_keep_174 (by decide) ?_
  refine lv_iadd hx hb dX3_keep_175 ?_
  refine va_put (D := (dC, dI)) (ci := 3) (v := .int ((P_166.1 + (1 : Int32)))) (ty := .int) (C := RX3) (T := TX3) (N := 2) hx hb hts in_X3_keep_X3 tyX3 tyX3_ok nmX3 hown hK hP hD hS 0 rfl rfl 0 (by decide) (hts (.fieldLink RX3 15 "BackLoans$Past" "kept" "I") (by decide +kernel)) (fun _ h9 => h9) rfl (by decide +kernel) rfl rfl (Nat.le_of_ble_eq_true rfl) dX3_keep_176 (fun H locs hP hD hS => ?_)
  obtain ⟨P_176, hP, hD, hf⟩ := st_nm (ws := fun P_176 : Ps => (wP cs a P_176 ++ wT cs b T)) (((P_166.1 + (1 : Int32)), P_166.2)) hP hD hf
  exact hR _ _ _ _ _ dX3_keep_179 hf hP hD hS
def f_X3_keep  (P : Ps) (T : Tw) : Option Ps :=
  if P.1 < (8 : Int32) then (
    f_X3_keep_32 P T
  ) else (
    gc ((35 : Int32)) ((0 : Int32)) ((245 : Int32)) 280 280 <|
    lett ((P.1, va_cpy P.2 P.2 ((35 : Int32)).toNatClampNeg ((0 : Int32)).toNatClampNeg ((245 : Int32)).toNatClampNeg)) fun P_23 =>
    lett (((7 : Int32), P_23.2)) fun P_29 =>
    f_X3_keep_32 P_29 T
  )
set_option maxHeartbeats 4000000 in
set_option maxRecDepth 100000 in
theorem c_X3_keep (l : Launch) (dC : Nat → ClassId) (dI : Nat → Nat → Nat) (cs : Nat → ClassId) (a : Nat → Nat) (b : Nat → Nat) (sz : Nat) (P : Ps) (T : Tw)  (res : Ps) (hf : f_X3_keep P T = some res) : Met l yX3_keep wsX3_keep ({ frames := 1, cells := 0, slots := 0, locals := 26 }) (va_Pc [.ref (a 0), .ref (b 0)] (fun U => U.heap.size = sz ∧ va_P (dC, dI) vwCl (wP cs a P ++ wT cs b T) U.heap ∧ GE dC dI cs U ∧ va_D (fun _ => True) (wP cs a P ++ wT cs b T))) (va_Qv (fun u : Ps => u = res) (fun u t => va_P (dC, dI) vwCl ((fun u : Ps => (wP cs a u ++ wT cs b T)) u) t.heap ∧ va_D (va_A (wP cs a P ++ wT cs b T) sz) ((fun u : Ps => (wP cs a u ++ wT cs b T)) u)) (va_A (wP cs a P ++ wT cs b T) sz)) 0 0 (va_A (wP cs a P ++ wT cs b T) sz) := by
  refine Met.ofW (cc := cX3_keep) (maxL := 3) (ret := none) (by decide) rfl ?_
  intro p e s m args below meth c s₁ B hml hv
  obtain ⟨rfl, hsz, hP, G, hD0⟩ := hv
  have hts := atoms_spec (ws := wsX3_keep) B.pre
  have hown : s.vm.findClass RX3 = some m.cls := findClass_of_methodNamed B.named
  have hlocks := B.notSynchronized
  have hx := B.exec
  have hb := B.bytes
  have hr := B.returns
  have C : CallFix p m c cX3_keep 3 s _ wsX3_keep RX3 := ⟨hx, hb, hml, hown, hts⟩
  obtain ⟨hK, hN⟩ := id G
  subst hsz
  have hD := hD0.self (sz := s.heap.size)
  generalize hAe : va_A (wP cs a P ++ wT cs b T) s.heap.size = A at hD ⊢
  have hA : ∀ q : Nat, s.heap.size ≤ q → A q := fun q h => by rw [← hAe]; exact Or.inr h
  have hS : va_S A s.heap s.heap [] := va_S.rf
  have hR : RTv p l e ({ frames := 1, cells := 0, slots := 0, locals := 26 }) s m ([.ref (a 0), .ref (b 0)] : List Value).toArray below meth c cX3_keep (MQ below (va_Qv (fun u : Ps => u = res) (fun u t => va_P (dC, dI) vwCl ((fun u : Ps => (wP cs a u ++ wT cs b T)) u) t.heap ∧ va_D A ((fun u : Ps => (wP cs a u ++ wT cs b T)) u)) A) ([.ref (a 0), .ref (b 0)] : List Value).toArray s 0 0 A) (dC, dI) A (fun u : Ps => (wP cs a u ++ wT cs b T)) res := fun H locs pc ls u dd h hP hD hS => W.vret hx hb hr (fun t ht hW => ⟨⟨u, rfl, by cases h; rfl, by rw [ht]; exact hP, hD⟩, hS.F ht⟩) hS.2.2 dd
  have hl := lv_entry ([.ref (a 0), .ref (b 0)]) (n := 3) (Nat.le_of_ble_eq_true rfl)
  rw [lg_entry_eq]
  generalize (lg_sl ([.ref (a 0), .ref (b 0)]) ++ List.replicate (3 - (lg_sl ([.ref (a 0), .ref (b 0)])).length) Slot.unset).toArray = ls at hl ⊢
  have hl : lv_has ls 3 [(0, .ref (a 0)), (1, .ref (b 0))] := hl
  unfold f_X3_keep at hf
  refine lv_aload_n hx hb dX3_keep_0 rfl (lv_at hl 0 rfl) ?_
  refine va_get (D := (dC, dI)) (ci := 3) (v := .int (P.1)) (C := RX3) (T := TX3) (N := 2) hx hb hts in_X3_keep_X3 hown hK hP 0 rfl rfl 0 (by decide) (hts (.fieldLink RX3 15 "BackLoans$Past" "kept" "I") (by decide +kernel)) (fun _ h9 => h9) rfl dX3_keep_1 ?_
  refine lv_bipush (v := 8) hx hb dX3_keep_4 (by decide) ?_
  refine lv_icmp_lt (tgt := 32) hx hb dX3_keep_6 (by decide) (fun c1 => ?_) (fun c1 => ?_)
  · replace hf := it_t c1 hf
    exact b_X3_keep_32 C G hA hR P T _ _ _ (lv_sub hl [0, 1] rfl) hP hD hS hf
  · replace hf := it_f c1 hf
    refine lv_aload_n hx hb dX3_keep_9 rfl (lv_at hl 0 rfl) ?_
    refine va_get (D := (dC, dI)) (ci := 3) (v := .ref (a 1)) (C := RX3) (T := TX3) (N := 2) hx hb hts in_X3_keep_X3 hown hK hP 0 rfl rfl 1 (by decide) (hts (.fieldLink RX3 11 "BackLoans$Past" "row" "[I") (by decide +kernel)) (fun _ h9 => h9) rfl dX3_keep_10 ?_
    refine lv_bipush (v := 35) hx hb dX3_keep_13 (by decide) ?_
    refine lv_aload_n hx hb dX3_keep_15 rfl (lv_at hl 0 rfl) ?_
    refine va_get (D := (dC, dI)) (ci := 3) (v := .ref (a 1)) (C := RX3) (T := TX3) (N := 2) hx hb hts in_X3_keep_X3 hown hK hP 0 rfl rfl 1 (by decide) (hts (.fieldLink RX3 11 "BackLoans$Past" "row" "[I") (by decide +kernel)) (fun _ h9 => h9) rfl dX3_keep_16 ?_
    refine lv_iconst (v := 0) hx hb dX3_keep_19 (by decide) ?_
    refine lv_sipush (v := 245) hx hb dX3_keep_20 (by decide) ?_
    obtain ⟨⟨h1_2, h2_2, h3_2, h4_2, h5_2⟩, hf⟩ := gc_e hf
    refine va_copyi hx hb (hml.trans hl.1.symm) hown (hts (.methodLink RX3 19 arraycopyName) (by decide +kernel)) (hts (.native arraycopyName) (by decide +kernel)) (hts (.static arraycopyName) (by decide +kernel)) (hts (.initialized "java/lang/System") (by decide +kernel)) hK hP hD hS 1 1 0 0 rfl rfl rfl rfl rfl h1_2 h2_2 h3_2 h4_2 h5_2 (fun _ _ => rfl) (Nat.le_of_ble_eq_true rfl) (by decide) dX3_keep_23 (fun H locs hP hD hS => ?_)
    obtain ⟨P_23, hP, hD, hf⟩ := st_nm (ws := fun P_23 : Ps => (wP cs a P_23 ++ wT cs b T)) ((P.1, va_cpy P.2 P.2 ((35 : Int32)).toNatClampNeg ((0 : Int32)).toNatClampNeg ((245 : Int32)).toNatClampNeg)) hP hD hf
    refine lv_aload_n hx hb dX3_keep_26 rfl (lv_at hl 0 rfl) ?_
    refine lv_bipush (v := 7) hx hb dX3_keep_27 (by decide) ?_
    refine va_put (D := (dC, dI)) (ci := 3) (v := .int ((7 : Int32))) (ty := .int) (C := RX3) (T := TX3) (N := 2) hx hb hts in_X3_keep_X3 tyX3 tyX3_ok nmX3 hown hK hP hD hS 0 rfl rfl 0 (by decide) (hts (.fieldLink RX3 15 "BackLoans$Past" "kept" "I") (by decide +kernel)) (fun _ h9 => h9) rfl (by decide +kernel) rfl rfl (Nat.le_of_ble_eq_true rfl) dX3_keep_29 (fun H locs hP hD hS => ?_)
    obtain ⟨P_29, hP, hD, hf⟩ := st_nm (ws := fun P_29 : Ps => (wP cs a P_29 ++ wT cs b T)) (((7 : Int32), P_23.2)) hP hD hf
    exact b_X3_keep_32 C G hA hR P_29 T _ _ _ (lv_sub hl [0, 1] rfl) hP hD hS hf

theorem in_X3_goBack_X3 : ∀ w ∈ wsX30, w ∈ wsX3_goBack := by decide +kernel
theorem in_X3_goBack_X5 : ∀ w ∈ wsX50, w ∈ wsX3_goBack := by decide +kernel
def f_X3_goBack  (P : Ps) (T : Tw) : Option (Ps × Tw) :=
  if 0 < P.1 then (
    lett (((P.1 - (1 : Int32)), P.2)) fun P_15 =>
    lett (P_15.1 * (35 : Int32)) fun x2_25 =>
    gi ((x2_25 + (3 : Int32))) 280 <|
    lett (if (6 : Int32) < (P_15.2 ((x2_25 + (3 : Int32))).toNatClampNeg) then (6 : Int32) else (P_15.2 ((x2_25 + (3 : Int32))).toNatClampNeg)) fun x3_39 =>
    gi ((x2_25 + (4 : Int32))) 280 <|
    lett (if (8 : Int32) < (P_15.2 ((x2_25 + (4 : Int32))).toNatClampNeg) then (8 : Int32) else (P_15.2 ((x2_25 + (4 : Int32))).toNatClampNeg)) fun x4_53 =>
    gi (x2_25) 280 <|
    lett ((upd T.1 0 ((P_15.2 (x2_25).toNatClampNeg)), T.2)) fun T_62 =>
    gi ((x2_25 + (1 : Int32))) 280 <|
    lett ((upd T_62.1 3 ((P_15.2 ((x2_25 + (1 : Int32))).toNatClampNeg)), T_62.2)) fun T_74 =>
    gi ((x2_25 + (2 : Int32))) 280 <|
    lett ((upd T_74.1 2 ((P_15.2 ((x2_25 + (2 : Int32))).toNatClampNeg)), T_74.2)) fun T_86 =>
    gc ((x2_25 + (5 : Int32))) ((0 : Int32)) (x3_39) 280 6 <|
    lett ((T_86.1, va_up T_86.2 2 (va_cpy P_15.2 (T_86.2 2) ((x2_25 + (5 : Int32))).toNatClampNeg ((0 : Int32)).toNatClampNeg (x3_39).toNatClampNeg))) fun T_102 =>
    gc ((x2_25 + (11 : Int32))) ((0 : Int32)) (x4_53) 280 8 <|
    lett ((T_102.1, va_up T_102.2 3 (va_cpy P_15.2 (T_102.2 3) ((x2_25 + (11 : Int32))).toNatClampNeg ((0 : Int32)).toNatClampNeg (x4_53).toNatClampNeg))) fun T_120 =>
    gc ((x2_25 + (19 : Int32))) ((0 : Int32)) (x4_53) 280 8 <|
    lett ((T_120.1, va_up T_120.2 6 (va_cpy P_15.2 (T_120.2 6) ((x2_25 + (19 : Int32))).toNatClampNeg ((0 : Int32)).toNatClampNeg (x4_53).toNatClampNeg))) fun T_138 =>
    gc ((x2_25 + (27 : Int32))) ((0 : Int32)) (x4_53) 280 8 <|
    lett ((T_138.1, va_up T_138.2 7 (va_cpy P_15.2 (T_138.2 7) ((x2_25 + (27 : Int32))).toNatClampNeg ((0 : Int32)).toNatClampNeg (x4_53).toNatClampNeg))) fun T_156 =>
    some (P_15, T_156)
  ) else (
    some (P, T)
  )
set_option maxHeartbeats 4000000 in
set_option maxRecDepth 100000 in
theorem c_X3_goBack (l : Launch) (dC : Nat → ClassId) (dI : Nat → Nat → Nat) (cs : Nat → ClassId) (a : Nat → Nat) (b : Nat → Nat) (sz : Nat) (P : Ps) (T : Tw)  (res : Ps × Tw) (hf : f_X3_goBack P T = some res) : Met l yX3_goBack wsX3_goBack ({ frames := 1, cells := 0, slots := 0, locals := 26 }) (va_Pc [.ref (a 0), .ref (b 0)] (fun U => U.heap.size = sz ∧ va_P (dC, dI) vwCl (wP cs a P ++ wT cs b T) U.heap ∧ GE dC dI cs U ∧ va_D (fun _ => True) (wP cs a P ++ wT cs b T))) (va_Qv (fun u : Ps × Tw => u = res) (fun u t => va_P (dC, dI) vwCl ((fun u : Ps × Tw => (wP cs a u.1 ++ wT cs b u.2)) u) t.heap ∧ va_D (va_A (wP cs a P ++ wT cs b T) sz) ((fun u : Ps × Tw => (wP cs a u.1 ++ wT cs b u.2)) u)) (va_A (wP cs a P ++ wT cs b T) sz)) 0 0 (va_A (wP cs a P ++ wT cs b T) sz) := by
  refine Met.ofW (cc := cX3_goBack) (maxL := 5) (ret := none) (by decide) rfl ?_
  intro p e s m args below meth c s₁ B hml hv
  obtain ⟨rfl, hsz, hP, G, hD0⟩ := hv
  have hts := atoms_spec (ws := wsX3_goBack) B.pre
  have hown : s.vm.findClass RX3 = some m.cls := findClass_of_methodNamed B.named
  have hlocks := B.notSynchronized
  have hx := B.exec
  have hb := B.bytes
  have hr := B.returns
  have C : CallFix p m c cX3_goBack 5 s _ wsX3_goBack RX3 := ⟨hx, hb, hml, hown, hts⟩
  obtain ⟨hK, hN⟩ := id G
  subst hsz
  have hD := hD0.self (sz := s.heap.size)
  generalize hAe : va_A (wP cs a P ++ wT cs b T) s.heap.size = A at hD ⊢
  have hA : ∀ q : Nat, s.heap.size ≤ q → A q := fun q h => by rw [← hAe]; exact Or.inr h
  have hS : va_S A s.heap s.heap [] := va_S.rf
  have hR : RTv p l e ({ frames := 1, cells := 0, slots := 0, locals := 26 }) s m ([.ref (a 0), .ref (b 0)] : List Value).toArray below meth c cX3_goBack (MQ below (va_Qv (fun u : Ps × Tw => u = res) (fun u t => va_P (dC, dI) vwCl ((fun u : Ps × Tw => (wP cs a u.1 ++ wT cs b u.2)) u) t.heap ∧ va_D A ((fun u : Ps × Tw => (wP cs a u.1 ++ wT cs b u.2)) u)) A) ([.ref (a 0), .ref (b 0)] : List Value).toArray s 0 0 A) (dC, dI) A (fun u : Ps × Tw => (wP cs a u.1 ++ wT cs b u.2)) res := fun H locs pc ls u dd h hP hD hS => W.vret hx hb hr (fun t ht hW => ⟨⟨u, rfl, by cases h; rfl, by rw [ht]; exact hP, hD⟩, hS.F ht⟩) hS.2.2 dd
  have hl := lv_entry ([.ref (a 0), .ref (b 0)]) (n := 5) (Nat.le_of_ble_eq_true rfl)
  rw [lg_entry_eq]
  generalize (lg_sl ([.ref (a 0), .ref (b 0)]) ++ List.replicate (5 - (lg_sl ([.ref (a 0), .ref (b 0)])).length) Slot.unset).toArray = ls at hl ⊢
  have hl : lv_has ls 5 [(0, .ref (a 0)), (1, .ref (b 0))] := hl
  unfold f_X3_goBack at hf
  refine lv_aload_n hx hb dX3_goBack_0 rfl (lv_at hl 0 rfl) ?_
  refine va_get (D := (dC, dI)) (ci := 3) (v := .int (P.1)) (C := RX3) (T := TX3) (N := 2) hx hb hts in_X3_goBack_X3 hown hK hP 0 rfl rfl 0 (by decide) (hts (.fieldLink RX3 15 "BackLoans$Past" "kept" "I") (by decide +kernel)) (fun _ h9 => h9) rfl dX3_goBack_1 ?_
  refine lv_if_gt (tgt := 8) hx hb dX3_goBack_4 (by decide) (fun c1 => ?_) (fun c1 => ?_)
  · replace hf := it_t c1 hf
    refine lv_aload_n hx hb dX3_goBack_8 rfl (lv_at hl 0 rfl) ?_
    refine lv_dup hx hb dX3_goBack_9 rfl ?_
    refine va_get (D := (dC, dI)) (ci := 3) (v := .int (P.1)) (C := RX3) (T := TX3) (N := 2) hx hb hts in_X3_goBack_X3 hown hK hP 0 rfl rfl 0 (by decide) (hts (.fieldLink RX3 15 "BackLoans$Past" "kept" "I") (by decide +kernel)) (fun _ h9 => h9) rfl dX3_goBack_10 ?_
    refine lv_iconst (v := 1) hx hb dX3_goBack_13 (by decide) ?_
    refine lv_isub hx hb dX3_goBack_14 ?_
    refine va_put (D := (dC, dI)) (ci := 3) (v := .int ((P.1 - (1 : Int32)))) (ty := .int) (C := RX3) (T := TX3) (N := 2) hx hb hts in_X3_goBack_X3 tyX3 tyX3_ok nmX3 hown hK hP hD hS 0 rfl rfl 0 (by decide) (hts (.fieldLink RX3 15 "BackLoans$Past" "kept" "I") (by decide +kernel)) (fun _ h9 => h9) rfl (by decide +kernel) rfl rfl (Nat.le_of_ble_eq_true rfl) dX3_goBack_15 (fun H locs hP hD hS => ?_)
    obtain ⟨P_15, hP, hD, hf⟩ := st_nm (ws := fun P_15 : Ps => (wP cs a P_15 ++ wT cs b T)) (((P.1 - (1 : Int32)), P.2)) hP hD hf
    refine lv_aload_n hx hb dX3_goBack_18 rfl (lv_at hl 0 rfl) ?_
    refine va_get (D := (dC, dI)) (ci := 3) (v := .int (P_15.1)) (C := RX3) (T := TX3) (N := 2) hx hb hts in_X3_goBack_X3 hown hK hP 0 rfl rfl 0 (by decide) (hts (.fieldLink RX3 15 "BackLoans$Past" "kept" "I") (by decide +kernel)) (fun _ h9 => h9) rfl dX3_goBack_19 ?_
    refine lv_bipush (v := 35) hx hb dX3_goBack_22 (by decide) ?_
    refine lv_imul hx hb dX3_goBack_24 ?_
    refine lv_topi (fun x2_25 ex2_25 => ?_)
    replace hf := lett_s ex2_25 hf
    refine lv_istore_n (lv' := [(2, .int (x2_25)), (0, .ref (a 0)), (1, .ref (b 0))]) hx hb dX3_goBack_25 rfl hl (by decide) rfl (fun ls hl => ?_)
    refine lv_aload_n hx hb dX3_goBack_26 rfl (lv_at hl 1 rfl) ?_
    refine va_get (D := (dC, dI)) (ci := 3) (v := .ref (a 1)) (C := RX3) (T := TX3) (N := 2) hx hb hts in_X3_goBack_X3 hown hK hP 0 rfl rfl 1 (by decide) (hts (.fieldLink RX3 11 "BackLoans$Past" "row" "[I") (by decide +kernel)) (fun _ h9 => h9) rfl dX3_goBack_27 ?_
    refine lv_iload_n hx hb dX3_goBack_30 rfl (lv_at hl 0 rfl) ?_
    refine lv_iconst (v := 3) hx hb dX3_goBack_31 (by decide) ?_
    refine lv_iadd hx hb dX3_goBack_32 ?_
    obtain ⟨hi2, hf⟩ := gi_e hf
    refine va_iald hx hb hK hP 1 0 rfl rfl hi2 dX3_goBack_33 ?_
    refine lv_bipush (v := 6) hx hb dX3_goBack_34 (by decide) ?_
    refine va_mmin hx hb (hml.trans hl.1.symm) hown (hts (.methodLink RX3 54 Lib.Math.min.name) (by decide +kernel)) (hts (.static Lib.Math.min.name) (by decide +kernel)) (hts (.initialized "java/lang/Math") (by decide +kernel)) (hts (.code Lib.Math.min.name Lib.Math.min.code 2 (some .int)) (by decide +kernel)) (Nat.le_of_ble_eq_true rfl) (Nat.le_of_ble_eq_true rfl) (Nat.le_of_ble_eq_true rfl) (Nat.le_of_ble_eq_true rfl) dX3_goBack_36 ?_
    refine lv_topi (fun x3_39 ex3_39 => ?_)
    replace hf := lett_s ex3_39 hf
    refine lv_istore_n (lv' := [(3, .int (x3_39)), (2, .int (x2_25)), (0, .ref (a 0)), (1, .ref (b 0))]) hx hb dX3_goBack_39 rfl hl (by decide) rfl (fun ls hl => ?_)
    refine lv_aload_n hx hb dX3_goBack_40 rfl (lv_at hl 2 rfl) ?_
    refine va_get (D := (dC, dI)) (ci := 3) (v := .ref (a 1)) (C := RX3) (T := TX3) (N := 2) hx hb hts in_X3_goBack_X3 hown hK hP 0 rfl rfl 1 (by decide) (hts (.fieldLink RX3 11 "BackLoans$Past" "row" "[I") (by decide +kernel)) (fun _ h9 => h9) rfl dX3_goBack_41 ?_
    refine lv_iload_n hx hb dX3_goBack_44 rfl (lv_at hl 1 rfl) ?_
    refine lv_iconst (v := 4) hx hb dX3_goBack_45 (by decide) ?_
    refine lv_iadd hx hb dX3_goBack_46 ?_
    obtain ⟨hi3, hf⟩ := gi_e hf
    refine va_iald hx hb hK hP 1 0 rfl rfl hi3 dX3_goBack_47 ?_
    refine lv_bipush (v := 8) hx hb dX3_goBack_48 (by decide) ?_
    refine va_mmin hx hb (hml.trans hl.1.symm) hown (hts (.methodLink RX3 54 Lib.Math.min.name) (by decide +kernel)) (hts (.static Lib.Math.min.name) (by decide +kernel)) (hts (.initialized "java/lang/Math") (by decide +kernel)) (hts (.code Lib.Math.min.name Lib.Math.min.code 2 (some .int)) (by decide +kernel)) (Nat.le_of_ble_eq_true rfl) (Nat.le_of_ble_eq_true rfl) (Nat.le_of_ble_eq_true rfl) (Nat.le_of_ble_eq_true rfl) dX3_goBack_50 ?_
    refine lv_topi (fun x4_53 ex4_53 => ?_)
    replace hf := lett_s ex4_53 hf
    refine lv_istore (lv' := [(4, .int (x4_53)), (3, .int (x3_39)), (2, .int (x2_25)), (0, .ref (a 0)), (1, .ref (b 0))]) hx hb dX3_goBack_53 hl (by decide) rfl (fun ls hl => ?_)
    refine lv_aload_n hx hb dX3_goBack_55 rfl (lv_at hl 4 rfl) ?_
    refine lv_aload_n hx hb dX3_goBack_56 rfl (lv_at hl 3 rfl) ?_
    refine va_get (D := (dC, dI)) (ci := 3) (v := .ref (a 1)) (C := RX3) (T := TX3) (N := 2) hx hb hts in_X3_goBack_X3 hown hK hP 0 rfl rfl 1 (by decide) (hts (.fieldLink RX3 11 "BackLoans$Past" "row" "[I") (by decide +kernel)) (fun _ h9 => h9) rfl dX3_goBack_57 ?_
    refine lv_iload_n hx hb dX3_goBack_60 rfl (lv_at hl 2 rfl) ?_
    obtain ⟨hi4, hf⟩ := gi_e hf
    refine va_iald hx hb hK hP 1 0 rfl rfl hi4 dX3_goBack_61 ?_
    refine va_put (D := (dC, dI)) (ci := 5) (v := .int ((P_15.2 (x2_25).toNatClampNeg))) (ty := .int) (C := RX5) (T := TX5) (N := 17) hx hb hts in_X3_goBack_X5 tyX5 tyX5_ok nmX5 hown hK hP hD hS 2 rfl rfl 0 (by decide) (hts (.fieldLink RX3 25 "BackLoans$Town" "chest" "I") (by decide +kernel)) (fun _ h9 => h9) rfl (by decide +kernel) rfl rfl (Nat.le_of_ble_eq_true rfl) dX3_goBack_62 (fun H locs hP hD hS => ?_)
    obtain ⟨T_62, hP, hD, hf⟩ := st_nm (ws := fun T_62 : Tw => (wP cs a P_15 ++ wT cs b T_62)) ((upd T.1 0 ((P_15.2 (x2_25).toNatClampNeg)), T.2)) hP hD hf
    refine lv_aload_n hx hb dX3_goBack_65 rfl (lv_at hl 4 rfl) ?_
    refine lv_aload_n hx hb dX3_goBack_66 rfl (lv_at hl 3 rfl) ?_
    refine va_get (D := (dC, dI)) (ci := 3) (v := .ref (a 1)) (C := RX3) (T := TX3) (N := 2) hx hb hts in_X3_goBack_X3 hown hK hP 0 rfl rfl 1 (by decide) (hts (.fieldLink RX3 11 "BackLoans$Past" "row" "[I") (by decide +kernel)) (fun _ h9 => h9) rfl dX3_goBack_67 ?_
    refine lv_iload_n hx hb dX3_goBack_70 rfl (lv_at hl 2 rfl) ?_
    refine lv_iconst (v := 1) hx hb dX3_goBack_71 (by decide) ?_
    refine lv_iadd hx hb dX3_goBack_72 ?_
    obtain ⟨hi5, hf⟩ := gi_e hf
    refine va_iald hx hb hK hP 1 0 rfl rfl hi5 dX3_goBack_73 ?_
    refine va_put (D := (dC, dI)) (ci := 5) (v := .int ((P_15.2 ((x2_25 + (1 : Int32))).toNatClampNeg))) (ty := .int) (C := RX5) (T := TX5) (N := 17) hx hb hts in_X3_goBack_X5 tyX5 tyX5_ok nmX5 hown hK hP hD hS 2 rfl rfl 3 (by decide) (hts (.fieldLink RX3 30 "BackLoans$Town" "lacks" "I") (by decide +kernel)) (fun _ h9 => h9) rfl (by decide +kernel) rfl rfl (Nat.le_of_ble_eq_true rfl) dX3_goBack_74 (fun H locs hP hD hS => ?_)
    obtain ⟨T_74, hP, hD, hf⟩ := st_nm (ws := fun T_74 : Tw => (wP cs a P_15 ++ wT cs b T_74)) ((upd T_62.1 3 ((P_15.2 ((x2_25 + (1 : Int32))).toNatClampNeg)), T_62.2)) hP hD hf
    refine lv_aload_n hx hb dX3_goBack_77 rfl (lv_at hl 4 rfl) ?_
    refine lv_aload_n hx hb dX3_goBack_78 rfl (lv_at hl 3 rfl) ?_
    refine va_get (D := (dC, dI)) (ci := 3) (v := .ref (a 1)) (C := RX3) (T := TX3) (N := 2) hx hb hts in_X3_goBack_X3 hown hK hP 0 rfl rfl 1 (by decide) (hts (.fieldLink RX3 11 "BackLoans$Past" "row" "[I") (by decide +kernel)) (fun _ h9 => h9) rfl dX3_goBack_79 ?_
    refine lv_iload_n hx hb dX3_goBack_82 rfl (lv_at hl 2 rfl) ?_
    refine lv_iconst (v := 2) hx hb dX3_goBack_83 (by decide) ?_
    refine lv_iadd hx hb dX3_goBack_84 ?_
    obtain ⟨hi6, hf⟩ := gi_e hf
    refine va_iald hx hb hK hP 1 0 rfl rfl hi6 dX3_goBack_85 ?_
    refine va_put (D := (dC, dI)) (ci := 5) (v := .int ((P_15.2 ((x2_25 + (2 : Int32))).toNatClampNeg))) (ty := .int) (C := RX5) (T := TX5) (N := 17) hx hb hts in_X3_goBack_X5 tyX5 tyX5_ok nmX5 hown hK hP hD hS 2 rfl rfl 2 (by decide) (hts (.fieldLink RX3 33 "BackLoans$Town" "month" "I") (by decide +kernel)) (fun _ h9 => h9) rfl (by decide +kernel) rfl rfl (Nat.le_of_ble_eq_true rfl) dX3_goBack_86 (fun H locs hP hD hS => ?_)
    obtain ⟨T_86, hP, hD, hf⟩ := st_nm (ws := fun T_86 : Tw => (wP cs a P_15 ++ wT cs b T_86)) ((upd T_74.1 2 ((P_15.2 ((x2_25 + (2 : Int32))).toNatClampNeg)), T_74.2)) hP hD hf
    refine lv_aload_n hx hb dX3_goBack_89 rfl (lv_at hl 3 rfl) ?_
    refine va_get (D := (dC, dI)) (ci := 3) (v := .ref (a 1)) (C := RX3) (T := TX3) (N := 2) hx hb hts in_X3_goBack_X3 hown hK hP 0 rfl rfl 1 (by decide) (hts (.fieldLink RX3 11 "BackLoans$Past" "row" "[I") (by decide +kernel)) (fun _ h9 => h9) rfl dX3_goBack_90 ?_
    refine lv_iload_n hx hb dX3_goBack_93 rfl (lv_at hl 2 rfl) ?_
    refine lv_iconst (v := 5) hx hb dX3_goBack_94 (by decide) ?_
    refine lv_iadd hx hb dX3_goBack_95 ?_
    refine lv_aload_n hx hb dX3_goBack_96 rfl (lv_at hl 4 rfl) ?_
    refine va_get (D := (dC, dI)) (ci := 5) (v := .ref (b 3)) (C := RX5) (T := TX5) (N := 17) hx hb hts in_X3_goBack_X5 hown hK hP 2 rfl rfl 9 (by decide) (hts (.fieldLink RX3 42 "BackLoans$Town" "purse" "[I") (by decide +kernel)) (fun _ h9 => h9) rfl dX3_goBack_97 ?_
    refine lv_iconst (v := 0) hx hb dX3_goBack_100 (by decide) ?_
    refine lv_iload_n hx hb dX3_goBack_101 rfl (lv_at hl 1 rfl) ?_
    obtain ⟨⟨h1_7, h2_7, h3_7, h4_7, h5_7⟩, hf⟩ := gc_e hf
    refine va_copyi hx hb (hml.trans hl.1.symm) hown (hts (.methodLink RX3 19 arraycopyName) (by decide +kernel)) (hts (.native arraycopyName) (by decide +kernel)) (hts (.static arraycopyName) (by decide +kernel)) (hts (.initialized "java/lang/System") (by decide +kernel)) hK hP hD hS 1 5 0 0 rfl rfl rfl rfl rfl h1_7 h2_7 h3_7 h4_7 h5_7 (fun _ _ => rfl) (Nat.le_of_ble_eq_true rfl) (by decide) dX3_goBack_102 (fun H locs hP hD hS => ?_)
    obtain ⟨T_102, hP, hD, hf⟩ := st_nm (ws := fun T_102 : Tw => (wP cs a P_15 ++ wT cs b T_102)) ((T_86.1, va_up T_86.2 2 (va_cpy P_15.2 (T_86.2 2) ((x2_25 + (5 : Int32))).toNatClampNeg ((0 : Int32)).toNatClampNeg (x3_39).toNatClampNeg))) hP hD hf
    refine lv_aload_n hx hb dX3_goBack_105 rfl (lv_at hl 3 rfl) ?_
    refine va_get (D := (dC, dI)) (ci := 3) (v := .ref (a 1)) (C := RX3) (T := TX3) (N := 2) hx hb hts in_X3_goBack_X3 hown hK hP 0 rfl rfl 1 (by decide) (hts (.fieldLink RX3 11 "BackLoans$Past" "row" "[I") (by decide +kernel)) (fun _ h9 => h9) rfl dX3_goBack_106 ?_
    refine lv_iload_n hx hb dX3_goBack_109 rfl (lv_at hl 2 rfl) ?_
    refine lv_bipush (v := 11) hx hb dX3_goBack_110 (by decide) ?_
    refine lv_iadd hx hb dX3_goBack_112 ?_
    refine lv_aload_n hx hb dX3_goBack_113 rfl (lv_at hl 4 rfl) ?_
    refine va_get (D := (dC, dI)) (ci := 5) (v := .ref (b 4)) (C := RX5) (T := TX5) (N := 17) hx hb hts in_X3_goBack_X5 hown hK hP 2 rfl rfl 10 (by decide) (hts (.fieldLink RX3 45 "BackLoans$Town" "owner" "[I") (by decide +kernel)) (fun _ h9 => h9) rfl dX3_goBack_114 ?_
    refine lv_iconst (v := 0) hx hb dX3_goBack_117 (by decide) ?_
    refine lv_iload hx hb dX3_goBack_118 (lv_at hl 0 rfl) ?_
    obtain ⟨⟨h1_8, h2_8, h3_8, h4_8, h5_8⟩, hf⟩ := gc_e hf
    refine va_copyi hx hb (hml.trans hl.1.symm) hown (hts (.methodLink RX3 19 arraycopyName) (by decide +kernel)) (hts (.native arraycopyName) (by decide +kernel)) (hts (.static arraycopyName) (by decide +kernel)) (hts (.initialized "java/lang/System") (by decide +kernel)) hK hP hD hS 1 6 0 0 rfl rfl rfl rfl rfl h1_8 h2_8 h3_8 h4_8 h5_8 (fun _ _ => rfl) (Nat.le_of_ble_eq_true rfl) (by decide) dX3_goBack_120 (fun H locs hP hD hS => ?_)
    obtain ⟨T_120, hP, hD, hf⟩ := st_nm (ws := fun T_120 : Tw => (wP cs a P_15 ++ wT cs b T_120)) ((T_102.1, va_up T_102.2 3 (va_cpy P_15.2 (T_102.2 3) ((x2_25 + (11 : Int32))).toNatClampNeg ((0 : Int32)).toNatClampNeg (x4_53).toNatClampNeg))) hP hD hf
    refine lv_aload_n hx hb dX3_goBack_123 rfl (lv_at hl 3 rfl) ?_
    refine va_get (D := (dC, dI)) (ci := 3) (v := .ref (a 1)) (C := RX3) (T := TX3) (N := 2) hx hb hts in_X3_goBack_X3 hown hK hP 0 rfl rfl 1 (by decide) (hts (.fieldLink RX3 11 "BackLoans$Past" "row" "[I") (by decide +kernel)) (fun _ h9 => h9) rfl dX3_goBack_124 ?_
    refine lv_iload_n hx hb dX3_goBack_127 rfl (lv_at hl 2 rfl) ?_
    refine lv_bipush (v := 19) hx hb dX3_goBack_128 (by decide) ?_
    refine lv_iadd hx hb dX3_goBack_130 ?_
    refine lv_aload_n hx hb dX3_goBack_131 rfl (lv_at hl 4 rfl) ?_
    refine va_get (D := (dC, dI)) (ci := 5) (v := .ref (b 7)) (C := RX5) (T := TX5) (N := 17) hx hb hts in_X3_goBack_X5 hown hK hP 2 rfl rfl 13 (by decide) (hts (.fieldLink RX3 48 "BackLoans$Town" "state" "[I") (by decide +kernel)) (fun _ h9 => h9) rfl dX3_goBack_132 ?_
    refine lv_iconst (v := 0) hx hb dX3_goBack_135 (by decide) ?_
    refine lv_iload hx hb dX3_goBack_136 (lv_at hl 0 rfl) ?_
    obtain ⟨⟨h1_9, h2_9, h3_9, h4_9, h5_9⟩, hf⟩ := gc_e hf
    refine va_copyi hx hb (hml.trans hl.1.symm) hown (hts (.methodLink RX3 19 arraycopyName) (by decide +kernel)) (hts (.native arraycopyName) (by decide +kernel)) (hts (.static arraycopyName) (by decide +kernel)) (hts (.initialized "java/lang/System") (by decide +kernel)) hK hP hD hS 1 9 0 0 rfl rfl rfl rfl rfl h1_9 h2_9 h3_9 h4_9 h5_9 (fun _ _ => rfl) (Nat.le_of_ble_eq_true rfl) (by decide) dX3_goBack_138 (fun H locs hP hD hS => ?_)
    obtain ⟨T_138, hP, hD, hf⟩ := st_nm (ws := fun T_138 : Tw => (wP cs a P_15 ++ wT cs b T_138)) ((T_120.1, va_up T_120.2 6 (va_cpy P_15.2 (T_120.2 6) ((x2_25 + (19 : Int32))).toNatClampNeg ((0 : Int32)).toNatClampNeg (x4_53).toNatClampNeg))) hP hD hf
    refine lv_aload_n hx hb dX3_goBack_141 rfl (lv_at hl 3 rfl) ?_
    refine va_get (D := (dC, dI)) (ci := 3) (v := .ref (a 1)) (C := RX3) (T := TX3) (N := 2) hx hb hts in_X3_goBack_X3 hown hK hP 0 rfl rfl 1 (by decide) (hts (.fieldLink RX3 11 "BackLoans$Past" "row" "[I") (by decide +kernel)) (fun _ h9 => h9) rfl dX3_goBack_142 ?_
    refine lv_iload_n hx hb dX3_goBack_145 rfl (lv_at hl 2 rfl) ?_
    refine lv_bipush (v := 27) hx hb dX3_goBack_146 (by decide) ?_
    refine lv_iadd hx hb dX3_goBack_148 ?_
    refine lv_aload_n hx hb dX3_goBack_149 rfl (lv_at hl 4 rfl) ?_
    refine va_get (D := (dC, dI)) (ci := 5) (v := .ref (b 8)) (C := RX5) (T := TX5) (N := 17) hx hb hts in_X3_goBack_X5 hown hK hP 2 rfl rfl 14 (by decide) (hts (.fieldLink RX3 51 "BackLoans$Town" "given" "[I") (by decide +kernel)) (fun _ h9 => h9) rfl dX3_goBack_150 ?_
    refine lv_iconst (v := 0) hx hb dX3_goBack_153 (by decide) ?_
    refine lv_iload hx hb dX3_goBack_154 (lv_at hl 0 rfl) ?_
    obtain ⟨⟨h1_10, h2_10, h3_10, h4_10, h5_10⟩, hf⟩ := gc_e hf
    refine va_copyi hx hb (hml.trans hl.1.symm) hown (hts (.methodLink RX3 19 arraycopyName) (by decide +kernel)) (hts (.native arraycopyName) (by decide +kernel)) (hts (.static arraycopyName) (by decide +kernel)) (hts (.initialized "java/lang/System") (by decide +kernel)) hK hP hD hS 1 10 0 0 rfl rfl rfl rfl rfl h1_10 h2_10 h3_10 h4_10 h5_10 (fun _ _ => rfl) (Nat.le_of_ble_eq_true rfl) (by decide) dX3_goBack_156 (fun H locs hP hD hS => ?_)
    obtain ⟨T_156, hP, hD, hf⟩ := st_nm (ws := fun T_156 : Tw => (wP cs a P_15 ++ wT cs b T_156)) ((T_138.1, va_up T_138.2 7 (va_cpy P_15.2 (T_138.2 7) ((x2_25 + (27 : Int32))).toNatClampNeg ((0 : Int32)).toNatClampNeg (x4_53).toNatClampNeg))) hP hD hf
    exact hR _ _ _ _ _ dX3_goBack_159 hf hP hD hS
  · replace hf := it_f c1 hf
    exact hR _ _ _ _ _ dX3_goBack_7 hf hP hD hS

def f_X0_commonDivisor_9 (x4 : Int64) (x6 : Int64) (x8 : Int32) (K9 : Int64 → Int64 → Int32 → Option Int64) : Option Int64 :=
  if (200 : Int32) ≤ x8 then (
    some x4
  ) else (
    if (lg_cmp x6 (0 : Int64)) = 0 then (
      some x4
    ) else (
      gzl (x6) <|
      lett (x4 - x4 / x6 * x6) fun x9_29 =>
      lett (x8 + 1) fun x8_39 =>
      K9 x6 x9_29 x8_39
    )
  )
set_option maxHeartbeats 4000000 in
set_option maxRecDepth 100000 in
theorem b_X0_commonDivisor_9 {p : Program} {l : Launch} {e : Env} {s : State} {m : MethodId} {args : Array Value} {below : List Frame} {meth : Method} {c : Code} {Q : State → Prop} {dC : Nat → ClassId} {dI : Nat → Nat → Nat} {cs : Nat → ClassId} {res : Int64} (C : CallFix p m c cX0_commonDivisor 11 s args wsX0_commonDivisor RX0) (G : GE dC dI cs s) (hR : RPl p l e ({ frames := 0, cells := 0, slots := 0, locals := 0 }) s m args below meth c cX0_commonDivisor Q res) (hP : va_P (dC, dI) vwCl ([] : va_W) s.heap) (x4 : Int64) (x6 : Int64) (x8 : Int32)  {K9 : Int64 → Int64 → Int32 → Option Int64} (hK9 : ∀ (x4 : Int64) (x6 : Int64) (x8 : Int32) (ls : Array Slot), lv_has ls 11 [(4, .long (x4)), (6, .long (x6)), (8, .int (x8))] → K9 x4 x6 x8 = some res → W p l e ({ frames := 0, cells := 0, slots := 0, locals := 0 }) s m args below meth c s.heap [] 0 0 Q (F0 m 9 ls [])) (ls : Array Slot) (hl : lv_has ls 11 [(4, .long (x4)), (6, .long (x6)), (8, .int (x8))]) (hf : f_X0_commonDivisor_9 x4 x6 x8 K9 = some res) : W p l e ({ frames := 0, cells := 0, slots := 0, locals := 0 }) s m args below meth c s.heap [] 0 0 Q (F0 m 9 ls []) := by
  obtain ⟨hx, hb, hml, hown, hts⟩ := id C
  obtain ⟨hK, hN⟩ := id G
  unfold f_X0_commonDivisor_9 at hf
  refine lv_iload hx hb dX0_commonDivisor_9 (lv_at hl 2 rfl) ?_
  refine lv_sipush (v := 200) hx hb dX0_commonDivisor_11 (by decide) ?_
  refine lv_icmp_ge (tgt := 45) hx hb dX0_commonDivisor_14 (by decide) (fun c1 => ?_) (fun c1 => ?_)
  · replace hf := it_t c1 hf
    refine lv_lload hx hb dX0_commonDivisor_45 (lv_at hl 0 rfl) ?_
    exact hR _ _ _ dX0_commonDivisor_47 hf
  · replace hf := it_f c1 hf
    refine lv_lload hx hb dX0_commonDivisor_17 (lv_at hl 1 rfl) ?_
    refine lv_lconst (v := 0) hx hb dX0_commonDivisor_19 (by decide) ?_
    refine W.lcmp hx hb dX0_commonDivisor_20 ?_
    refine lv_if_eq (tgt := 45) hx hb dX0_commonDivisor_21 (by decide) (fun c2 => ?_) (fun c2 => ?_)
    · replace hf := it_t c2 hf
      refine lv_lload hx hb dX0_commonDivisor_45 (lv_at hl 0 rfl) ?_
      exact hR _ _ _ dX0_commonDivisor_47 hf
    · replace hf := it_f c2 hf
      refine lv_lload hx hb dX0_commonDivisor_24 (lv_at hl 0 rfl) ?_
      refine lv_lload hx hb dX0_commonDivisor_26 (lv_at hl 1 rfl) ?_
      obtain ⟨hz3, hf⟩ := gzl_e hf
      refine lv_lrem hx hb dX0_commonDivisor_28 hz3 ?_
      refine lv_topl (fun x9_29 ex9_29 => ?_)
      replace hf := lett_s ex9_29 hf
      refine lv_lstore (lv' := [(9, .long (x9_29)), (4, .long (x4)), (6, .long (x6)), (8, .int (x8))]) hx hb dX0_commonDivisor_29 hl (by decide) rfl (fun ls hl => ?_)
      refine lv_lload hx hb dX0_commonDivisor_31 (lv_at hl 2 rfl) ?_
      refine lv_lstore (lv' := [(4, .long (x6)), (9, .long (x9_29)), (6, .long (x6)), (8, .int (x8))]) hx hb dX0_commonDivisor_33 hl (by decide) rfl (fun ls hl => ?_)
      refine lv_lload hx hb dX0_commonDivisor_35 (lv_at hl 1 rfl) ?_
      refine lv_lstore (lv' := [(6, .long (x9_29)), (4, .long (x6)), (9, .long (x9_29)), (8, .int (x8))]) hx hb dX0_commonDivisor_37 hl (by decide) rfl (fun ls hl => ?_)
      obtain ⟨x8_39, ex8_39⟩ : ∃ y : Int32, y = (x8 + 1) := ⟨_, rfl⟩
      replace hf := lett_s ex8_39 hf
      refine lv_iinc (v := x8_39) (lv' := [(8, .int (x8_39)), (6, .long (x9_29)), (4, .long (x6)), (9, .long (x9_29))]) hx hb dX0_commonDivisor_39 hl (k := 3) rfl (by rw [ex8_39]; rfl) (by decide) rfl (fun ls hl => ?_)
      refine lv_goto (tgt := 9) hx hb dX0_commonDivisor_42 (by decide) ?_
      exact hK9 x6 x9_29 x8_39 _ (lv_sub hl [2, 1, 0] rfl) hf
def l_X0_commonDivisor_9   (n : Nat) (x4 : Int64) (x6 : Int64) (x8 : Int32) : Option Int64 := itr (fun (k : Int64 × Int64 × Int32 → Option Int64) (z : Int64 × Int64 × Int32) => f_X0_commonDivisor_9 z.1 z.2.1 z.2.2 (fun x4 x6 x8 => k (x4, x6, x8))) n (x4, x6, x8)
set_option maxHeartbeats 4000000 in
set_option maxRecDepth 100000 in
theorem w_X0_commonDivisor_9 {p : Program} {l : Launch} {e : Env} {s : State} {m : MethodId} {args : Array Value} {below : List Frame} {meth : Method} {c : Code} {Q : State → Prop} {dC : Nat → ClassId} {dI : Nat → Nat → Nat} {cs : Nat → ClassId} {res : Int64} (C : CallFix p m c cX0_commonDivisor 11 s args wsX0_commonDivisor RX0) (G : GE dC dI cs s) (hR : RPl p l e ({ frames := 0, cells := 0, slots := 0, locals := 0 }) s m args below meth c cX0_commonDivisor Q res) (hP : va_P (dC, dI) vwCl ([] : va_W) s.heap)     : ∀ (n : Nat) (x4 : Int64) (x6 : Int64) (x8 : Int32) (ls : Array Slot), lv_has ls 11 [(4, .long (x4)), (6, .long (x6)), (8, .int (x8))] → l_X0_commonDivisor_9 n x4 x6 x8 = some res → W p l e ({ frames := 0, cells := 0, slots := 0, locals := 0 }) s m args below meth c s.heap [] 0 0 Q (F0 m 9 ls []) := by
  intro n
  induction n with
  | zero => intro x4 x6 x8 ls hl hf; exact absurd hf (by simp [l_X0_commonDivisor_9, itr])
  | succ n ih => intro x4 x6 x8 ls hl hf; exact b_X0_commonDivisor_9 C G hR hP x4 x6 x8 (K9 := fun x4 x6 x8 => l_X0_commonDivisor_9 n x4 x6 x8) (fun x4 x6 x8 ls hl hf => ih x4 x6 x8 ls hl hf) ls hl hf
def f_X0_commonDivisor (x0 : Int64) (x2 : Int64)  : Option Int64 :=
  lett (0 : Int32) fun x8_7 =>
  l_X0_commonDivisor_9 FU x0 x2 x8_7
set_option maxHeartbeats 4000000 in
set_option maxRecDepth 100000 in
theorem c_X0_commonDivisor (l : Launch) (dC : Nat → ClassId) (dI : Nat → Nat → Nat) (cs : Nat → ClassId)  (x0 : Int64) (x2 : Int64) (res : Int64) (hf : f_X0_commonDivisor x0 x2 = some res) : Met l yX0_commonDivisor wsX0_commonDivisor ({ frames := 0, cells := 0, slots := 0, locals := 0 }) (va_Pc [.long (x0), .long (x2)] (fun U => va_P (dC, dI) vwCl ([] : va_W) U.heap ∧ GE dC dI cs U)) (vp_Sl (fun r => r = res)) 0 0 (fun _ => False) := by
  refine Met.ofW (cc := cX0_commonDivisor) (maxL := 11) (ret := (some .long)) (by decide) rfl ?_
  intro p e s m args below meth c s₁ B hml hv
  obtain ⟨rfl, hP, G⟩ := hv
  have hts := atoms_spec (ws := wsX0_commonDivisor) B.pre
  have hown : s.vm.findClass RX0 = some m.cls := findClass_of_methodNamed B.named
  have hlocks := B.notSynchronized
  have hx := B.exec
  have hb := B.bytes
  have hr := B.returns
  have C : CallFix p m c cX0_commonDivisor 11 s _ wsX0_commonDivisor RX0 := ⟨hx, hb, hml, hown, hts⟩
  obtain ⟨hK, hN⟩ := id G
  have hR : RPl p l e ({ frames := 0, cells := 0, slots := 0, locals := 0 }) s m ([.long (x0), .long (x2)] : List Value).toArray below meth c cX0_commonDivisor (MQ below (vp_Sl (fun r => r = res)) ([.long (x0), .long (x2)] : List Value).toArray s 0 0 (fun _ => False)) res := fun pc ls r dd h => W.lret hx hb hr (fun t ht hW => ⟨r, rfl, Option.some.inj h, ht⟩) (fun q hq => by cases hq) dd
  have hl := lv_entry ([.long (x0), .long (x2)]) (n := 11) (Nat.le_of_ble_eq_true rfl)
  rw [lg_entry_eq]
  generalize (lg_sl ([.long (x0), .long (x2)]) ++ List.replicate (11 - (lg_sl ([.long (x0), .long (x2)])).length) Slot.unset).toArray = ls at hl ⊢
  have hl : lv_has ls 11 [(0, .long (x0)), (2, .long (x2))] := hl
  unfold f_X0_commonDivisor at hf
  refine lv_lload_n hx hb dX0_commonDivisor_0 rfl (lv_at hl 0 rfl) ?_
  refine lv_lstore (lv' := [(4, .long (x0)), (0, .long (x0)), (2, .long (x2))]) hx hb dX0_commonDivisor_1 hl (by decide) rfl (fun ls hl => ?_)
  refine lv_lload_n hx hb dX0_commonDivisor_3 rfl (lv_at hl 2 rfl) ?_
  refine lv_lstore (lv' := [(6, .long (x2)), (4, .long (x0)), (0, .long (x0)), (2, .long (x2))]) hx hb dX0_commonDivisor_4 hl (by decide) rfl (fun ls hl => ?_)
  refine lv_iconst (v := 0) hx hb dX0_commonDivisor_6 (by decide) ?_
  refine lv_topi (fun x8_7 ex8_7 => ?_)
  replace hf := lett_s ex8_7 hf
  refine lv_istore (lv' := [(8, .int (x8_7)), (6, .long (x2)), (4, .long (x0)), (0, .long (x0)), (2, .long (x2))]) hx hb dX0_commonDivisor_7 hl (by decide) rfl (fun ls hl => ?_)
  exact w_X0_commonDivisor_9 C G hR hP FU x0 x2 x8_7 _ (lv_sub hl [2, 1, 0] rfl) hf

theorem in_X0_setLowest_X0 : ∀ w ∈ wsX00, w ∈ wsX0_setLowest := by decide +kernel
def f_X0_setLowest (x1 : Int64) (x3 : Int64) (K : Ch) : Option Ch :=
  bn (f_X0_commonDivisor x1 x3) fun r2 =>
  if 0 ≤ (lg_cmp r2 (1 : Int64)) then (
    gzl (r2) <|
    lett ((vp_updL K.1 0 ((x1 / r2)), K.2)) fun K_20 =>
    gzl (r2) <|
    lett ((vp_updL K_20.1 1 ((x3 / r2)), K_20.2)) fun K_28 =>
    some K_28
  ) else (
    some K
  )
set_option maxHeartbeats 4000000 in
set_option maxRecDepth 100000 in
theorem c_X0_setLowest (l : Launch) (dC : Nat → ClassId) (dI : Nat → Nat → Nat) (cs : Nat → ClassId) (a : Nat → Nat) (sz : Nat) (K : Ch) (x1 : Int64) (x3 : Int64) (res : Ch) (hf : f_X0_setLowest x1 x3 K = some res) : Met l yX0_setLowest wsX0_setLowest ({ frames := 1, cells := 0, slots := 0, locals := 30 }) (va_Pc [.ref (a 0), .long (x1), .long (x3)] (fun U => U.heap.size = sz ∧ va_P (dC, dI) vwCl (wC cs a K) U.heap ∧ GE dC dI cs U ∧ va_D (fun _ => True) (wC cs a K))) (va_Qv (fun u : Ch => u = res) (fun u t => va_P (dC, dI) vwCl ((fun u : Ch => (wC cs a u)) u) t.heap ∧ va_D (va_A (wC cs a K) sz) ((fun u : Ch => (wC cs a u)) u)) (va_A (wC cs a K) sz)) 0 0 (va_A (wC cs a K) sz) := by
  refine Met.ofW (cc := cX0_setLowest) (maxL := 7) (ret := none) (by decide) rfl ?_
  intro p e s m args below meth c s₁ B hml hv
  obtain ⟨rfl, hsz, hP, G, hD0⟩ := hv
  have hts := atoms_spec (ws := wsX0_setLowest) B.pre
  have hown : s.vm.findClass RX0 = some m.cls := findClass_of_methodNamed B.named
  have hlocks := B.notSynchronized
  have hx := B.exec
  have hb := B.bytes
  have hr := B.returns
  have C : CallFix p m c cX0_setLowest 7 s _ wsX0_setLowest RX0 := ⟨hx, hb, hml, hown, hts⟩
  obtain ⟨hK, hN⟩ := id G
  subst hsz
  have hD := hD0.self (sz := s.heap.size)
  generalize hAe : va_A (wC cs a K) s.heap.size = A at hD ⊢
  have hA : ∀ q : Nat, s.heap.size ≤ q → A q := fun q h => by rw [← hAe]; exact Or.inr h
  have hS : va_S A s.heap s.heap [] := va_S.rf
  have hR : RTv p l e ({ frames := 1, cells := 0, slots := 0, locals := 30 }) s m ([.ref (a 0), .long (x1), .long (x3)] : List Value).toArray below meth c cX0_setLowest (MQ below (va_Qv (fun u : Ch => u = res) (fun u t => va_P (dC, dI) vwCl ((fun u : Ch => (wC cs a u)) u) t.heap ∧ va_D A ((fun u : Ch => (wC cs a u)) u)) A) ([.ref (a 0), .long (x1), .long (x3)] : List Value).toArray s 0 0 A) (dC, dI) A (fun u : Ch => (wC cs a u)) res := fun H locs pc ls u dd h hP hD hS => W.vret hx hb hr (fun t ht hW => ⟨⟨u, rfl, by cases h; rfl, by rw [ht]; exact hP, hD⟩, hS.F ht⟩) hS.2.2 dd
  have hl := lv_entry ([.ref (a 0), .long (x1), .long (x3)]) (n := 7) (Nat.le_of_ble_eq_true rfl)
  rw [lg_entry_eq]
  generalize (lg_sl ([.ref (a 0), .long (x1), .long (x3)]) ++ List.replicate (7 - (lg_sl ([.ref (a 0), .long (x1), .long (x3)])).length) Slot.unset).toArray = ls at hl ⊢
  have hl : lv_has ls 7 [(0, .ref (a 0)), (1, .long (x1)), (3, .long (x3))] := hl
  unfold f_X0_setLowest at hf
  refine lv_lload_n hx hb dX0_setLowest_0 rfl (lv_at hl 1 rfl) ?_
  refine lv_lload_n hx hb dX0_setLowest_1 rfl (lv_at hl 2 rfl) ?_
  obtain ⟨r2, hr2, hf⟩ := bn_e hf
  have hPc := hP.sub (ws' := ([] : va_W)) [] rfl
  refine vp_callSl (W.runS (As := [.long (x1), .long (x3)]) (rest := []) C (c_X0_commonDivisor l dC dI cs x1 x3 r2 hr2) (va_cwS 2 hts gX0_setLowest_X0_commonDivisor rfl rfl rfl (by decide +kernel) ⟨Nat.le_of_ble_eq_true rfl, Nat.le_of_ble_eq_true rfl⟩) ⟨(fun a U g mk q => ⟨q.1, q.2.1, GE.calling q.2.2⟩), (fun U hU hW => ⟨rfl, by rw [hU]; exact hPc, GE.warm hW G⟩)⟩ rfl rfl hl.1 rfl (lv_room (Nat.le_of_ble_eq_true rfl)) dX0_setLowest_2 ⟨Nat.le_of_ble_eq_true rfl, Nat.le_of_ble_eq_true rfl⟩) (fun qr2 hqr2 => ?_)
  obtain rfl := hqr2.symm
  refine lv_lstore (lv' := [(5, .long (r2)), (0, .ref (a 0)), (1, .long (x1)), (3, .long (x3))]) hx hb dX0_setLowest_5 hl (by decide) rfl (fun ls hl => ?_)
  refine lv_lload hx hb dX0_setLowest_7 (lv_at hl 0 rfl) ?_
  refine lv_lconst (v := 1) hx hb dX0_setLowest_9 (by decide) ?_
  refine W.lcmp hx hb dX0_setLowest_10 ?_
  refine lv_if_ge (tgt := 15) hx hb dX0_setLowest_11 (by decide) (fun c1 => ?_) (fun c1 => ?_)
  · replace hf := it_t c1 hf
    refine lv_aload_n hx hb dX0_setLowest_15 rfl (lv_at hl 1 rfl) ?_
    refine lv_lload_n hx hb dX0_setLowest_16 rfl (lv_at hl 2 rfl) ?_
    refine lv_lload hx hb dX0_setLowest_17 (lv_at hl 0 rfl) ?_
    obtain ⟨hz2, hf⟩ := gzl_e hf
    refine lv_ldiv hx hb dX0_setLowest_19 hz2 ?_
    refine va_put (D := (dC, dI)) (ci := 0) (v := .long ((x1 / r2))) (ty := .long) (C := RX0) (T := TX0) (N := 3) hx hb hts in_X0_setLowest_X0 tyX0 tyX0_ok nmX0 hown hK hP hD hS 0 rfl rfl 0 (by decide) (hts (.fieldLink RX0 9 "BackLoans$Chance" "above" "J") (by decide +kernel)) (fun _ h9 => h9) rfl (by decide +kernel) rfl rfl (Nat.le_of_ble_eq_true rfl) dX0_setLowest_20 (fun H locs hP hD hS => ?_)
    obtain ⟨K_20, hP, hD, hf⟩ := st_nm (ws := fun K_20 : Ch => (wC cs a K_20)) ((vp_updL K.1 0 ((x1 / r2)), K.2)) hP hD hf
    refine lv_aload_n hx hb dX0_setLowest_23 rfl (lv_at hl 1 rfl) ?_
    refine lv_lload_n hx hb dX0_setLowest_24 rfl (lv_at hl 3 rfl) ?_
    refine lv_lload hx hb dX0_setLowest_25 (lv_at hl 0 rfl) ?_
    obtain ⟨hz3, hf⟩ := gzl_e hf
    refine lv_ldiv hx hb dX0_setLowest_27 hz3 ?_
    refine va_put (D := (dC, dI)) (ci := 0) (v := .long ((x3 / r2))) (ty := .long) (C := RX0) (T := TX0) (N := 3) hx hb hts in_X0_setLowest_X0 tyX0 tyX0_ok nmX0 hown hK hP hD hS 0 rfl rfl 1 (by decide) (hts (.fieldLink RX0 15 "BackLoans$Chance" "below" "J") (by decide +kernel)) (fun _ h9 => h9) rfl (by decide +kernel) rfl rfl (Nat.le_of_ble_eq_true rfl) dX0_setLowest_28 (fun H locs hP hD hS => ?_)
    obtain ⟨K_28, hP, hD, hf⟩ := st_nm (ws := fun K_28 : Ch => (wC cs a K_28)) ((vp_updL K_20.1 1 ((x3 / r2)), K_20.2)) hP hD hf
    exact hR _ _ _ _ _ dX0_setLowest_31 hf hP hD hS
  · replace hf := it_f c1 hf
    exact hR _ _ _ _ _ dX0_setLowest_14 hf hP hD hS

theorem in_X0_giveToTheEnd_X0 : ∀ w ∈ wsX00, w ∈ wsX0_giveToTheEnd := by decide +kernel
theorem in_X0_giveToTheEnd_X5 : ∀ w ∈ wsX50, w ∈ wsX0_giveToTheEnd := by decide +kernel
def f_X0_giveToTheEnd_164 (x2 : Int32) (x3 : Int32) (x4 : Int32) (x5 : Int32) (x6 : Int32) (x7 : Int64) (x9 : Int32) (x10 : Int32) (s1 : Int32) (s2 : Int64) (K : Ch) (T : Tw) (K78 : Int32 → Ch → Option Ch) : Option Ch :=
  gi (s1) 13 <|
  lett ((K.1, vp_updL K.2 (s1).toNatClampNeg (s2))) fun K_164 =>
  lett (x10 + (-1)) fun x10_165 =>
  K78 x10_165 K_164
set_option maxHeartbeats 4000000 in
set_option maxRecDepth 100000 in
theorem b_X0_giveToTheEnd_164 {p : Program} {l : Launch} {e : Env} {s : State} {m : MethodId} {args : Array Value} {below : List Frame} {meth : Method} {c : Code} {Q : State → Prop} {dC : Nat → ClassId} {dI : Nat → Nat → Nat} {cs : Nat → ClassId} {A : Nat → Prop} {a : Nat → Nat} {b : Nat → Nat} {res : Ch} (C : CallFix p m c cX0_giveToTheEnd 14 s args wsX0_giveToTheEnd RX0) (G : GE dC dI cs s) (hA : ∀ q : Nat, s.heap.size ≤ q → A q) {T : Tw} (hR : RTv p l e ({ frames := 2, cells := 0, slots := 0, locals := 56 }) s m args below meth c cX0_giveToTheEnd Q (dC, dI) A (fun u : Ch => (wC cs a u ++ wT cs b T)) res) (x2 : Int32) (x3 : Int32) (x4 : Int32) (x5 : Int32) (x6 : Int32) (x7 : Int64) (x9 : Int32) (x10 : Int32) (s1 : Int32) (s2 : Int64) (K : Ch) (_ : Tw) {K78 : Int32 → Ch → Option Ch} (hK78 : ∀ (x10 : Int32) (K : Ch) (H : Heap) (locs : List Loc) (ls : Array Slot), lv_has ls 14 [(0, .ref (a 0)), (1, .ref (b 0)), (2, .int (x2)), (3, .int (x3)), (4, .int (x4)), (5, .int (x5)), (6, .int (x6)), (7, .long (x7)), (9, .int (x9)), (10, .int (x10))] → va_P (dC, dI) vwCl (wC cs a K ++ wT cs b T) H → va_D A (wC cs a K ++ wT cs b T) → va_S A s.heap H locs → K78 x10 K = some res → W p l e ({ frames := 2, cells := 0, slots := 0, locals := 56 }) s m args below meth c H locs 0 0 Q (F0 m 78 ls [])) (H : Heap) (locs : List Loc) (ls : Array Slot) (hl : lv_has ls 14 [(0, .ref (a 0)), (1, .ref (b 0)), (2, .int (x2)), (3, .int (x3)), (4, .int (x4)), (5, .int (x5)), (6, .int (x6)), (7, .long (x7)), (9, .int (x9)), (10, .int (x10))]) (hP : va_P (dC, dI) vwCl (wC cs a K ++ wT cs b T) H) (hD : va_D A (wC cs a K ++ wT cs b T)) (hS : va_S A s.heap H locs) (hf : f_X0_giveToTheEnd_164 x2 x3 x4 x5 x6 x7 x9 x10 s1 s2 K T K78 = some res) : W p l e ({ frames := 2, cells := 0, slots := 0, locals := 56 }) s m args below meth c H locs 0 0 Q (F0 m 164 ls [.long (s2), .int (s1), .ref (a 1)]) := by
  obtain ⟨hx, hb, hml, hown, hts⟩ := id C
  obtain ⟨hK, hN⟩ := id G
  unfold f_X0_giveToTheEnd_164 at hf
  obtain ⟨hi1, hf⟩ := gi_e hf
  refine va_last hx hb hK hP hD hS 1 1 rfl rfl hi1 dX0_giveToTheEnd_164 (fun H locs hP hD hS => ?_)
  obtain ⟨K_164, hP, hD, hf⟩ := st_nm (ws := fun K_164 : Ch => (wC cs a K_164 ++ wT cs b T)) ((K.1, vp_updL K.2 (s1).toNatClampNeg (s2))) hP hD hf
  obtain ⟨x10_165, ex10_165⟩ : ∃ y : Int32, y = (x10 + (-1)) := ⟨_, rfl⟩
  replace hf := lett_s ex10_165 hf
  refine lv_iinc (v := x10_165) (lv' := [(10, .int (x10_165)), (0, .ref (a 0)), (1, .ref (b 0)), (2, .int (x2)), (3, .int (x3)), (4, .int (x4)), (5, .int (x5)), (6, .int (x6)), (7, .long (x7)), (9, .int (x9))]) hx hb dX0_giveToTheEnd_165 hl (k := 9) rfl (by rw [ex10_165]; rfl) (by decide) rfl (fun ls hl => ?_)
  refine lv_goto (tgt := 78) hx hb dX0_giveToTheEnd_168 (by decide) ?_
  exact hK78 x10_165 K_164 _ _ _ (lv_sub hl [1, 2, 3, 4, 5, 6, 7, 8, 9, 0] rfl) hP hD hS hf
def f_X0_giveToTheEnd_131 (x2 : Int32) (x3 : Int32) (x4 : Int32) (x5 : Int32) (x6 : Int32) (x7 : Int64) (x9 : Int32) (x10 : Int32) (x11 : Int64) (s0 : Int32) (K : Ch) (T : Tw) (K78 : Int32 → Ch → Option Ch) : Option Ch :=
  if s0 = 0 then (
    f_X0_giveToTheEnd_164 x2 x3 x4 x5 x6 x7 x9 x10 x10 (0 : Int64) K T K78
  ) else (
    gi (x10) 13 <|
    f_X0_giveToTheEnd_164 x2 x3 x4 x5 x6 x7 x9 x10 x10 (((K.2 (x10).toNatClampNeg) * (((10 : Int32) - x3)).toInt64) + x11) K T K78
  )
set_option maxHeartbeats 4000000 in
set_option maxRecDepth 100000 in
theorem b_X0_giveToTheEnd_131 {p : Program} {l : Launch} {e : Env} {s : State} {m : MethodId} {args : Array Value} {below : List Frame} {meth : Method} {c : Code} {Q : State → Prop} {dC : Nat → ClassId} {dI : Nat → Nat → Nat} {cs : Nat → ClassId} {A : Nat → Prop} {a : Nat → Nat} {b : Nat → Nat} {res : Ch} (C : CallFix p m c cX0_giveToTheEnd 14 s args wsX0_giveToTheEnd RX0) (G : GE dC dI cs s) (hA : ∀ q : Nat, s.heap.size ≤ q → A q) {T : Tw} (hR : RTv p l e ({ frames := 2, cells := 0, slots := 0, locals := 56 }) s m args below meth c cX0_giveToTheEnd Q (dC, dI) A (fun u : Ch => (wC cs a u ++ wT cs b T)) res) (x2 : Int32) (x3 : Int32) (x4 : Int32) (x5 : Int32) (x6 : Int32) (x7 : Int64) (x9 : Int32) (x10 : Int32) (x11 : Int64) (s0 : Int32) (K : Ch) (_ : Tw) {K78 : Int32 → Ch → Option Ch} (hK78 : ∀ (x10 : Int32) (K : Ch) (H : Heap) (locs : List Loc) (ls : Array Slot), lv_has ls 14 [(0, .ref (a 0)), (1, .ref (b 0)), (2, .int (x2)), (3, .int (x3)), (4, .int (x4)), (5, .int (x5)), (6, .int (x6)), (7, .long (x7)), (9, .int (x9)), (10, .int (x10))] → va_P (dC, dI) vwCl (wC cs a K ++ wT cs b T) H → va_D A (wC cs a K ++ wT cs b T) → va_S A s.heap H locs → K78 x10 K = some res → W p l e ({ frames := 2, cells := 0, slots := 0, locals := 56 }) s m args below meth c H locs 0 0 Q (F0 m 78 ls [])) (H : Heap) (locs : List Loc) (ls : Array Slot) (hl : lv_has ls 14 [(0, .ref (a 0)), (1, .ref (b 0)), (2, .int (x2)), (3, .int (x3)), (4, .int (x4)), (5, .int (x5)), (6, .int (x6)), (7, .long (x7)), (9, .int (x9)), (10, .int (x10)), (11, .long (x11))]) (hP : va_P (dC, dI) vwCl (wC cs a K ++ wT cs b T) H) (hD : va_D A (wC cs a K ++ wT cs b T)) (hS : va_S A s.heap H locs) (hf : f_X0_giveToTheEnd_131 x2 x3 x4 x5 x6 x7 x9 x10 x11 s0 K T K78 = some res) : W p l e ({ frames := 2, cells := 0, slots := 0, locals := 56 }) s m args below meth c H locs 0 0 Q (F0 m 131 ls [.int (s0)]) := by
  obtain ⟨hx, hb, hml, hown, hts⟩ := id C
  obtain ⟨hK, hN⟩ := id G
  unfold f_X0_giveToTheEnd_131 at hf
  refine lv_istore (lv' := [(13, .int (s0)), (0, .ref (a 0)), (1, .ref (b 0)), (2, .int (x2)), (3, .int (x3)), (4, .int (x4)), (5, .int (x5)), (6, .int (x6)), (7, .long (x7)), (9, .int (x9)), (10, .int (x10)), (11, .long (x11))]) hx hb dX0_giveToTheEnd_131 hl (by decide) rfl (fun ls hl => ?_)
  refine lv_aload_n hx hb dX0_giveToTheEnd_133 rfl (lv_at hl 1 rfl) ?_
  refine va_get (D := (dC, dI)) (ci := 0) (v := .ref (a 1)) (C := RX0) (T := TX0) (N := 3) hx hb hts in_X0_giveToTheEnd_X0 hown hK hP 0 rfl rfl 2 (by decide) (hts (.fieldLink RX0 18 "BackLoans$Chance" "weight" "[J") (by decide +kernel)) (fun _ h9 => h9) rfl dX0_giveToTheEnd_134 ?_
  refine lv_iload hx hb dX0_giveToTheEnd_137 (lv_at hl 10 rfl) ?_
  refine lv_iload hx hb dX0_giveToTheEnd_139 (lv_at hl 0 rfl) ?_
  refine lv_if_eq (tgt := 163) hx hb dX0_giveToTheEnd_141 (by decide) (fun c1 => ?_) (fun c1 => ?_)
  · replace hf := it_t c1 hf
    refine lv_lconst (v := 0) hx hb dX0_giveToTheEnd_163 (by decide) ?_
    exact b_X0_giveToTheEnd_164 C G hA hR x2 x3 x4 x5 x6 x7 x9 x10 x10 (0 : Int64) K T hK78 _ _ _ (lv_sub hl [1, 2, 3, 4, 5, 6, 7, 8, 9, 10] rfl) hP hD hS hf
  · replace hf := it_f c1 hf
    refine lv_aload_n hx hb dX0_giveToTheEnd_144 rfl (lv_at hl 1 rfl) ?_
    refine va_get (D := (dC, dI)) (ci := 0) (v := .ref (a 1)) (C := RX0) (T := TX0) (N := 3) hx hb hts in_X0_giveToTheEnd_X0 hown hK hP 0 rfl rfl 2 (by decide) (hts (.fieldLink RX0 18 "BackLoans$Chance" "weight" "[J") (by decide +kernel)) (fun _ h9 => h9) rfl dX0_giveToTheEnd_145 ?_
    refine lv_iload hx hb dX0_giveToTheEnd_148 (lv_at hl 10 rfl) ?_
    obtain ⟨hi2, hf⟩ := gi_e hf
    refine va_lald hx hb hK hP 1 1 rfl rfl hi2 dX0_giveToTheEnd_150 ?_
    refine lv_bipush (v := 10) hx hb dX0_giveToTheEnd_151 (by decide) ?_
    refine lv_iload_n hx hb dX0_giveToTheEnd_153 rfl (lv_at hl 4 rfl) ?_
    refine lv_isub hx hb dX0_giveToTheEnd_154 ?_
    refine lv_i2l hx hb dX0_giveToTheEnd_155 rfl ?_
    refine lv_lmul hx hb dX0_giveToTheEnd_156 ?_
    refine lv_lload hx hb dX0_giveToTheEnd_157 (lv_at hl 11 rfl) ?_
    refine lv_ladd hx hb dX0_giveToTheEnd_159 ?_
    refine lv_goto (tgt := 164) hx hb dX0_giveToTheEnd_160 (by decide) ?_
    exact b_X0_giveToTheEnd_164 C G hA hR x2 x3 x4 x5 x6 x7 x9 x10 x10 (((K.2 (x10).toNatClampNeg) * (((10 : Int32) - x3)).toInt64) + x11) K T hK78 _ _ _ (lv_sub hl [1, 2, 3, 4, 5, 6, 7, 8, 9, 10] rfl) hP hD hS hf
def f_X0_giveToTheEnd_104 (x2 : Int32) (x3 : Int32) (x4 : Int32) (x5 : Int32) (x6 : Int32) (x7 : Int64) (x9 : Int32) (x10 : Int32) (s0 : Int64) (K : Ch) (T : Tw) (K78 : Int32 → Ch → Option Ch) : Option Ch :=
  gi (x2) 8 <|
  if (x5 + (x10 * x6)) < (x9 * ((T.2 4) (x2).toNatClampNeg)) then (
    f_X0_giveToTheEnd_131 x2 x3 x4 x5 x6 x7 x9 x10 s0 (0 : Int32) K T K78
  ) else (
    f_X0_giveToTheEnd_131 x2 x3 x4 x5 x6 x7 x9 x10 s0 (1 : Int32) K T K78
  )
set_option maxHeartbeats 4000000 in
set_option maxRecDepth 100000 in
theorem b_X0_giveToTheEnd_104 {p : Program} {l : Launch} {e : Env} {s : State} {m : MethodId} {args : Array Value} {below : List Frame} {meth : Method} {c : Code} {Q : State → Prop} {dC : Nat → ClassId} {dI : Nat → Nat → Nat} {cs : Nat → ClassId} {A : Nat → Prop} {a : Nat → Nat} {b : Nat → Nat} {res : Ch} (C : CallFix p m c cX0_giveToTheEnd 14 s args wsX0_giveToTheEnd RX0) (G : GE dC dI cs s) (hA : ∀ q : Nat, s.heap.size ≤ q → A q) {T : Tw} (hR : RTv p l e ({ frames := 2, cells := 0, slots := 0, locals := 56 }) s m args below meth c cX0_giveToTheEnd Q (dC, dI) A (fun u : Ch => (wC cs a u ++ wT cs b T)) res) (x2 : Int32) (x3 : Int32) (x4 : Int32) (x5 : Int32) (x6 : Int32) (x7 : Int64) (x9 : Int32) (x10 : Int32) (s0 : Int64) (K : Ch) (_ : Tw) {K78 : Int32 → Ch → Option Ch} (hK78 : ∀ (x10 : Int32) (K : Ch) (H : Heap) (locs : List Loc) (ls : Array Slot), lv_has ls 14 [(0, .ref (a 0)), (1, .ref (b 0)), (2, .int (x2)), (3, .int (x3)), (4, .int (x4)), (5, .int (x5)), (6, .int (x6)), (7, .long (x7)), (9, .int (x9)), (10, .int (x10))] → va_P (dC, dI) vwCl (wC cs a K ++ wT cs b T) H → va_D A (wC cs a K ++ wT cs b T) → va_S A s.heap H locs → K78 x10 K = some res → W p l e ({ frames := 2, cells := 0, slots := 0, locals := 56 }) s m args below meth c H locs 0 0 Q (F0 m 78 ls [])) (H : Heap) (locs : List Loc) (ls : Array Slot) (hl : lv_has ls 14 [(0, .ref (a 0)), (1, .ref (b 0)), (2, .int (x2)), (3, .int (x3)), (4, .int (x4)), (5, .int (x5)), (6, .int (x6)), (7, .long (x7)), (9, .int (x9)), (10, .int (x10))]) (hP : va_P (dC, dI) vwCl (wC cs a K ++ wT cs b T) H) (hD : va_D A (wC cs a K ++ wT cs b T)) (hS : va_S A s.heap H locs) (hf : f_X0_giveToTheEnd_104 x2 x3 x4 x5 x6 x7 x9 x10 s0 K T K78 = some res) : W p l e ({ frames := 2, cells := 0, slots := 0, locals := 56 }) s m args below meth c H locs 0 0 Q (F0 m 104 ls [.long (s0)]) := by
  obtain ⟨hx, hb, hml, hown, hts⟩ := id C
  obtain ⟨hK, hN⟩ := id G
  unfold f_X0_giveToTheEnd_104 at hf
  refine lv_lstore (lv' := [(11, .long (s0)), (0, .ref (a 0)), (1, .ref (b 0)), (2, .int (x2)), (3, .int (x3)), (4, .int (x4)), (5, .int (x5)), (6, .int (x6)), (7, .long (x7)), (9, .int (x9)), (10, .int (x10))]) hx hb dX0_giveToTheEnd_104 hl (by decide) rfl (fun ls hl => ?_)
  refine lv_iload hx hb dX0_giveToTheEnd_106 (lv_at hl 6 rfl) ?_
  refine lv_iload hx hb dX0_giveToTheEnd_108 (lv_at hl 10 rfl) ?_
  refine lv_iload hx hb dX0_giveToTheEnd_110 (lv_at hl 7 rfl) ?_
  refine lv_imul hx hb dX0_giveToTheEnd_112 ?_
  refine lv_iadd hx hb dX0_giveToTheEnd_113 ?_
  refine lv_iload hx hb dX0_giveToTheEnd_114 (lv_at hl 9 rfl) ?_
  refine lv_aload_n hx hb dX0_giveToTheEnd_116 rfl (lv_at hl 2 rfl) ?_
  refine va_get (D := (dC, dI)) (ci := 5) (v := .ref (b 5)) (C := RX5) (T := TX5) (N := 17) hx hb hts in_X0_giveToTheEnd_X5 hown hK hP 2 rfl rfl 11 (by decide) (hts (.fieldLink RX0 46 "BackLoans$Town" "pence" "[I") (by decide +kernel)) (fun _ h9 => h9) rfl dX0_giveToTheEnd_117 ?_
  refine lv_iload_n hx hb dX0_giveToTheEnd_120 rfl (lv_at hl 3 rfl) ?_
  obtain ⟨hi1, hf⟩ := gi_e hf
  refine va_iald hx hb hK hP 7 0 rfl rfl hi1 dX0_giveToTheEnd_121 ?_
  refine lv_imul hx hb dX0_giveToTheEnd_122 ?_
  refine lv_icmp_lt (tgt := 130) hx hb dX0_giveToTheEnd_123 (by decide) (fun c2 => ?_) (fun c2 => ?_)
  · replace hf := it_t c2 hf
    refine lv_iconst (v := 0) hx hb dX0_giveToTheEnd_130 (by decide) ?_
    exact b_X0_giveToTheEnd_131 C G hA hR x2 x3 x4 x5 x6 x7 x9 x10 s0 (0 : Int32) K T hK78 _ _ _ (lv_sub hl [1, 2, 3, 4, 5, 6, 7, 8, 9, 10, 0] rfl) hP hD hS hf
  · replace hf := it_f c2 hf
    refine lv_iconst (v := 1) hx hb dX0_giveToTheEnd_126 (by decide) ?_
    refine lv_goto (tgt := 131) hx hb dX0_giveToTheEnd_127 (by decide) ?_
    exact b_X0_giveToTheEnd_131 C G hA hR x2 x3 x4 x5 x6 x7 x9 x10 s0 (1 : Int32) K T hK78 _ _ _ (lv_sub hl [1, 2, 3, 4, 5, 6, 7, 8, 9, 10, 0] rfl) hP hD hS hf
def f_X0_giveToTheEnd_78 (x2 : Int32) (x3 : Int32) (x4 : Int32) (x5 : Int32) (x6 : Int32) (x7 : Int64) (x9 : Int32) (x10 : Int32) (K : Ch) (T : Tw) (K78 : Int32 → Ch → Option Ch) (K171 : Ch → Option Ch) : Option Ch :=
  if x10 < 0 then (
    K171 K
  ) else (
    if x10 ≤ 0 then (
      f_X0_giveToTheEnd_104 x2 x3 x4 x5 x6 x7 x9 x10 (0 : Int64) K T K78
    ) else (
      gi ((x10 - (1 : Int32))) 13 <|
      f_X0_giveToTheEnd_104 x2 x3 x4 x5 x6 x7 x9 x10 ((K.2 ((x10 - (1 : Int32))).toNatClampNeg) * (x3).toInt64) K T K78
    )
  )
set_option maxHeartbeats 4000000 in
set_option maxRecDepth 100000 in
theorem b_X0_giveToTheEnd_78 {p : Program} {l : Launch} {e : Env} {s : State} {m : MethodId} {args : Array Value} {below : List Frame} {meth : Method} {c : Code} {Q : State → Prop} {dC : Nat → ClassId} {dI : Nat → Nat → Nat} {cs : Nat → ClassId} {A : Nat → Prop} {a : Nat → Nat} {b : Nat → Nat} {res : Ch} (C : CallFix p m c cX0_giveToTheEnd 14 s args wsX0_giveToTheEnd RX0) (G : GE dC dI cs s) (hA : ∀ q : Nat, s.heap.size ≤ q → A q) {T : Tw} (hR : RTv p l e ({ frames := 2, cells := 0, slots := 0, locals := 56 }) s m args below meth c cX0_giveToTheEnd Q (dC, dI) A (fun u : Ch => (wC cs a u ++ wT cs b T)) res) (x2 : Int32) (x3 : Int32) (x4 : Int32) (x5 : Int32) (x6 : Int32) (x7 : Int64) (x9 : Int32) (x10 : Int32) (K : Ch) (_ : Tw) {K78 : Int32 → Ch → Option Ch} {K171 : Ch → Option Ch} (hK78 : ∀ (x10 : Int32) (K : Ch) (H : Heap) (locs : List Loc) (ls : Array Slot), lv_has ls 14 [(0, .ref (a 0)), (1, .ref (b 0)), (2, .int (x2)), (3, .int (x3)), (4, .int (x4)), (5, .int (x5)), (6, .int (x6)), (7, .long (x7)), (9, .int (x9)), (10, .int (x10))] → va_P (dC, dI) vwCl (wC cs a K ++ wT cs b T) H → va_D A (wC cs a K ++ wT cs b T) → va_S A s.heap H locs → K78 x10 K = some res → W p l e ({ frames := 2, cells := 0, slots := 0, locals := 56 }) s m args below meth c H locs 0 0 Q (F0 m 78 ls [])) (hK171 : ∀ (K : Ch) (H : Heap) (locs : List Loc) (ls : Array Slot), lv_has ls 14 [(0, .ref (a 0)), (1, .ref (b 0)), (2, .int (x2)), (3, .int (x3)), (4, .int (x4)), (5, .int (x5)), (6, .int (x6)), (7, .long (x7)), (9, .int (x9))] → va_P (dC, dI) vwCl (wC cs a K ++ wT cs b T) H → va_D A (wC cs a K ++ wT cs b T) → va_S A s.heap H locs → K171 K = some res → W p l e ({ frames := 2, cells := 0, slots := 0, locals := 56 }) s m args below meth c H locs 0 0 Q (F0 m 171 ls [])) (H : Heap) (locs : List Loc) (ls : Array Slot) (hl : lv_has ls 14 [(0, .ref (a 0)), (1, .ref (b 0)), (2, .int (x2)), (3, .int (x3)), (4, .int (x4)), (5, .int (x5)), (6, .int (x6)), (7, .long (x7)), (9, .int (x9)), (10, .int (x10))]) (hP : va_P (dC, dI) vwCl (wC cs a K ++ wT cs b T) H) (hD : va_D A (wC cs a K ++ wT cs b T)) (hS : va_S A s.heap H locs) (hf : f_X0_giveToTheEnd_78 x2 x3 x4 x5 x6 x7 x9 x10 K T K78 K171 = some res) : W p l e ({ frames := 2, cells := 0, slots := 0, locals := 56 }) s m args below meth c H locs 0 0 Q (F0 m 78 ls []) := by
  obtain ⟨hx, hb, hml, hown, hts⟩ := id C
  obtain ⟨hK, hN⟩ := id G
  unfold f_X0_giveToTheEnd_78 at hf
  refine lv_iload hx hb dX0_giveToTheEnd_78 (lv_at hl 9 rfl) ?_
  refine lv_if_lt (tgt := 171) hx hb dX0_giveToTheEnd_80 (by decide) (fun c1 => ?_) (fun c1 => ?_)
  · replace hf := it_t c1 hf
    exact hK171 K _ _ _ (lv_sub hl [0, 1, 2, 3, 4, 5, 6, 7, 8] rfl) hP hD hS hf
  · replace hf := it_f c1 hf
    refine lv_iload hx hb dX0_giveToTheEnd_83 (lv_at hl 9 rfl) ?_
    refine lv_if_le (tgt := 103) hx hb dX0_giveToTheEnd_85 (by decide) (fun c2 => ?_) (fun c2 => ?_)
    · replace hf := it_t c2 hf
      refine lv_lconst (v := 0) hx hb dX0_giveToTheEnd_103 (by decide) ?_
      exact b_X0_giveToTheEnd_104 C G hA hR x2 x3 x4 x5 x6 x7 x9 x10 (0 : Int64) K T hK78 _ _ _ (lv_sub hl [0, 1, 2, 3, 4, 5, 6, 7, 8, 9] rfl) hP hD hS hf
    · replace hf := it_f c2 hf
      refine lv_aload_n hx hb dX0_giveToTheEnd_88 rfl (lv_at hl 0 rfl) ?_
      refine va_get (D := (dC, dI)) (ci := 0) (v := .ref (a 1)) (C := RX0) (T := TX0) (N := 3) hx hb hts in_X0_giveToTheEnd_X0 hown hK hP 0 rfl rfl 2 (by decide) (hts (.fieldLink RX0 18 "BackLoans$Chance" "weight" "[J") (by decide +kernel)) (fun _ h9 => h9) rfl dX0_giveToTheEnd_89 ?_
      refine lv_iload hx hb dX0_giveToTheEnd_92 (lv_at hl 9 rfl) ?_
      refine lv_iconst (v := 1) hx hb dX0_giveToTheEnd_94 (by decide) ?_
      refine lv_isub hx hb dX0_giveToTheEnd_95 ?_
      obtain ⟨hi3, hf⟩ := gi_e hf
      refine va_lald hx hb hK hP 1 1 rfl rfl hi3 dX0_giveToTheEnd_96 ?_
      refine lv_iload_n hx hb dX0_giveToTheEnd_97 rfl (lv_at hl 3 rfl) ?_
      refine lv_i2l hx hb dX0_giveToTheEnd_98 rfl ?_
      refine lv_lmul hx hb dX0_giveToTheEnd_99 ?_
      refine lv_goto (tgt := 104) hx hb dX0_giveToTheEnd_100 (by decide) ?_
      exact b_X0_giveToTheEnd_104 C G hA hR x2 x3 x4 x5 x6 x7 x9 x10 ((K.2 ((x10 - (1 : Int32))).toNatClampNeg) * (x3).toInt64) K T hK78 _ _ _ (lv_sub hl [0, 1, 2, 3, 4, 5, 6, 7, 8, 9] rfl) hP hD hS hf
def l_X0_giveToTheEnd_78 (x2 : Int32) (x3 : Int32) (x4 : Int32) (x5 : Int32) (x6 : Int32) (x7 : Int64) (x9 : Int32) (T : Tw) (K171 : Ch → Option Ch) (n : Nat) (x10 : Int32) (K : Ch) : Option Ch := itr (fun (k : Int32 × Ch → Option Ch) (z : Int32 × Ch) => f_X0_giveToTheEnd_78 x2 x3 x4 x5 x6 x7 x9 z.1 z.2 T (fun x10 K => k (x10, K)) K171) n (x10, K)
set_option maxHeartbeats 4000000 in
set_option maxRecDepth 100000 in
theorem w_X0_giveToTheEnd_78 {p : Program} {l : Launch} {e : Env} {s : State} {m : MethodId} {args : Array Value} {below : List Frame} {meth : Method} {c : Code} {Q : State → Prop} {dC : Nat → ClassId} {dI : Nat → Nat → Nat} {cs : Nat → ClassId} {A : Nat → Prop} {a : Nat → Nat} {b : Nat → Nat} {res : Ch} (C : CallFix p m c cX0_giveToTheEnd 14 s args wsX0_giveToTheEnd RX0) (G : GE dC dI cs s) (hA : ∀ q : Nat, s.heap.size ≤ q → A q) {T : Tw} (hR : RTv p l e ({ frames := 2, cells := 0, slots := 0, locals := 56 }) s m args below meth c cX0_giveToTheEnd Q (dC, dI) A (fun u : Ch => (wC cs a u ++ wT cs b T)) res) (x2 : Int32) (x3 : Int32) (x4 : Int32) (x5 : Int32) (x6 : Int32) (x7 : Int64) (x9 : Int32) (_ : Tw) {K171 : Ch → Option Ch} (hK171 : ∀ (K : Ch) (H : Heap) (locs : List Loc) (ls : Array Slot), lv_has ls 14 [(0, .ref (a 0)), (1, .ref (b 0)), (2, .int (x2)), (3, .int (x3)), (4, .int (x4)), (5, .int (x5)), (6, .int (x6)), (7, .long (x7)), (9, .int (x9))] → va_P (dC, dI) vwCl (wC cs a K ++ wT cs b T) H → va_D A (wC cs a K ++ wT cs b T) → va_S A s.heap H locs → K171 K = some res → W p l e ({ frames := 2, cells := 0, slots := 0, locals := 56 }) s m args below meth c H locs 0 0 Q (F0 m 171 ls [])) : ∀ (n : Nat) (x10 : Int32) (K : Ch) (H : Heap) (locs : List Loc) (ls : Array Slot), lv_has ls 14 [(0, .ref (a 0)), (1, .ref (b 0)), (2, .int (x2)), (3, .int (x3)), (4, .int (x4)), (5, .int (x5)), (6, .int (x6)), (7, .long (x7)), (9, .int (x9)), (10, .int (x10))] → va_P (dC, dI) vwCl (wC cs a K ++ wT cs b T) H → va_D A (wC cs a K ++ wT cs b T) → va_S A s.heap H locs → l_X0_giveToTheEnd_78 x2 x3 x4 x5 x6 x7 x9 T K171 n x10 K = some res → W p l e ({ frames := 2, cells := 0, slots := 0, locals := 56 }) s m args below meth c H locs 0 0 Q (F0 m 78 ls []) := by
  intro n
  induction n with
  | zero => intro x10 K H locs ls hl hP hD hS hf; exact absurd hf (by simp [l_X0_giveToTheEnd_78, itr])
  | succ n ih => intro x10 K H locs ls hl hP hD hS hf; exact b_X0_giveToTheEnd_78 C G hA hR x2 x3 x4 x5 x6 x7 x9 x10 K T (K78 := fun x10 K => l_X0_giveToTheEnd_78 x2 x3 x4 x5 x6 x7 x9 T K171 n x10 K) (fun x10 K H locs ls hl hP hD hS hf => ih x10 K H locs ls hl hP hD hS hf) hK171 H locs ls hl hP hD hS hf
def f_X0_giveToTheEnd_171 (x2 : Int32) (x3 : Int32) (x4 : Int32) (x5 : Int32) (x6 : Int32) (x7 : Int64) (x9 : Int32) (K : Ch) (T : Tw) (K59 : Int64 → Int32 → Ch → Option Ch) : Option Ch :=
  lett (x7 * (10 : Int64)) fun x7_177 =>
  lett (x9 + 1) fun x9_179 =>
  K59 x7_177 x9_179 K
set_option maxHeartbeats 4000000 in
set_option maxRecDepth 100000 in
theorem b_X0_giveToTheEnd_171 {p : Program} {l : Launch} {e : Env} {s : State} {m : MethodId} {args : Array Value} {below : List Frame} {meth : Method} {c : Code} {Q : State → Prop} {dC : Nat → ClassId} {dI : Nat → Nat → Nat} {cs : Nat → ClassId} {A : Nat → Prop} {a : Nat → Nat} {b : Nat → Nat} {res : Ch} (C : CallFix p m c cX0_giveToTheEnd 14 s args wsX0_giveToTheEnd RX0) (G : GE dC dI cs s) (hA : ∀ q : Nat, s.heap.size ≤ q → A q) {T : Tw} (hR : RTv p l e ({ frames := 2, cells := 0, slots := 0, locals := 56 }) s m args below meth c cX0_giveToTheEnd Q (dC, dI) A (fun u : Ch => (wC cs a u ++ wT cs b T)) res) (x2 : Int32) (x3 : Int32) (x4 : Int32) (x5 : Int32) (x6 : Int32) (x7 : Int64) (x9 : Int32) (K : Ch) (_ : Tw) {K59 : Int64 → Int32 → Ch → Option Ch} (hK59 : ∀ (x7 : Int64) (x9 : Int32) (K : Ch) (H : Heap) (locs : List Loc) (ls : Array Slot), lv_has ls 14 [(0, .ref (a 0)), (1, .ref (b 0)), (2, .int (x2)), (3, .int (x3)), (4, .int (x4)), (5, .int (x5)), (6, .int (x6)), (7, .long (x7)), (9, .int (x9))] → va_P (dC, dI) vwCl (wC cs a K ++ wT cs b T) H → va_D A (wC cs a K ++ wT cs b T) → va_S A s.heap H locs → K59 x7 x9 K = some res → W p l e ({ frames := 2, cells := 0, slots := 0, locals := 56 }) s m args below meth c H locs 0 0 Q (F0 m 59 ls [])) (H : Heap) (locs : List Loc) (ls : Array Slot) (hl : lv_has ls 14 [(0, .ref (a 0)), (1, .ref (b 0)), (2, .int (x2)), (3, .int (x3)), (4, .int (x4)), (5, .int (x5)), (6, .int (x6)), (7, .long (x7)), (9, .int (x9))]) (hP : va_P (dC, dI) vwCl (wC cs a K ++ wT cs b T) H) (hD : va_D A (wC cs a K ++ wT cs b T)) (hS : va_S A s.heap H locs) (hf : f_X0_giveToTheEnd_171 x2 x3 x4 x5 x6 x7 x9 K T K59 = some res) : W p l e ({ frames := 2, cells := 0, slots := 0, locals := 56 }) s m args below meth c H locs 0 0 Q (F0 m 171 ls []) := by
  obtain ⟨hx, hb, hml, hown, hts⟩ := id C
  obtain ⟨hK, hN⟩ := id G
  unfold f_X0_giveToTheEnd_171 at hf
  refine lv_lload hx hb dX0_giveToTheEnd_171 (lv_at hl 7 rfl) ?_
  refine lv_ldc2 (v := 10) hx hb hown (hts (.constantLong RX0 49 (10)) (by decide +kernel)) dX0_giveToTheEnd_173 ?_
  refine lv_lmul hx hb dX0_giveToTheEnd_176 ?_
  refine lv_topl (fun x7_177 ex7_177 => ?_)
  replace hf := lett_s ex7_177 hf
  refine lv_lstore (lv' := [(7, .long (x7_177)), (0, .ref (a 0)), (1, .ref (b 0)), (2, .int (x2)), (3, .int (x3)), (4, .int (x4)), (5, .int (x5)), (6, .int (x6)), (9, .int (x9))]) hx hb dX0_giveToTheEnd_177 hl (by decide) rfl (fun ls hl => ?_)
  obtain ⟨x9_179, ex9_179⟩ : ∃ y : Int32, y = (x9 + 1) := ⟨_, rfl⟩
  replace hf := lett_s ex9_179 hf
  refine lv_iinc (v := x9_179) (lv' := [(9, .int (x9_179)), (7, .long (x7_177)), (0, .ref (a 0)), (1, .ref (b 0)), (2, .int (x2)), (3, .int (x3)), (4, .int (x4)), (5, .int (x5)), (6, .int (x6))]) hx hb dX0_giveToTheEnd_179 hl (k := 8) rfl (by rw [ex9_179]; rfl) (by decide) rfl (fun ls hl => ?_)
  refine lv_goto (tgt := 59) hx hb dX0_giveToTheEnd_182 (by decide) ?_
  exact hK59 x7_177 x9_179 K _ _ _ (lv_sub hl [2, 3, 4, 5, 6, 7, 8, 1, 0] rfl) hP hD hS hf
def f_X0_giveToTheEnd_59 (x2 : Int32) (x3 : Int32) (x4 : Int32) (x5 : Int32) (x6 : Int32) (x7 : Int64) (x9 : Int32) (K : Ch) (T : Tw) (K59 : Int64 → Int32 → Ch → Option Ch) (K185 : Int64 → Ch → Option Ch) : Option Ch :=
  if x4 < x9 then (
    K185 x7 K
  ) else (
    gi (x9) 13 <|
    lett ((K.1, vp_updL K.2 (x9).toNatClampNeg ((0 : Int64)))) fun K_73 =>
    l_X0_giveToTheEnd_78 x2 x3 x4 x5 x6 x7 x9 T (fun Kz => f_X0_giveToTheEnd_171 x2 x3 x4 x5 x6 x7 x9 Kz T K59) FU x9 K_73
  )
set_option maxHeartbeats 4000000 in
set_option maxRecDepth 100000 in
theorem b_X0_giveToTheEnd_59 {p : Program} {l : Launch} {e : Env} {s : State} {m : MethodId} {args : Array Value} {below : List Frame} {meth : Method} {c : Code} {Q : State → Prop} {dC : Nat → ClassId} {dI : Nat → Nat → Nat} {cs : Nat → ClassId} {A : Nat → Prop} {a : Nat → Nat} {b : Nat → Nat} {res : Ch} (C : CallFix p m c cX0_giveToTheEnd 14 s args wsX0_giveToTheEnd RX0) (G : GE dC dI cs s) (hA : ∀ q : Nat, s.heap.size ≤ q → A q) {T : Tw} (hR : RTv p l e ({ frames := 2, cells := 0, slots := 0, locals := 56 }) s m args below meth c cX0_giveToTheEnd Q (dC, dI) A (fun u : Ch => (wC cs a u ++ wT cs b T)) res) (x2 : Int32) (x3 : Int32) (x4 : Int32) (x5 : Int32) (x6 : Int32) (x7 : Int64) (x9 : Int32) (K : Ch) (_ : Tw) {K59 : Int64 → Int32 → Ch → Option Ch} {K185 : Int64 → Ch → Option Ch} (hK59 : ∀ (x7 : Int64) (x9 : Int32) (K : Ch) (H : Heap) (locs : List Loc) (ls : Array Slot), lv_has ls 14 [(0, .ref (a 0)), (1, .ref (b 0)), (2, .int (x2)), (3, .int (x3)), (4, .int (x4)), (5, .int (x5)), (6, .int (x6)), (7, .long (x7)), (9, .int (x9))] → va_P (dC, dI) vwCl (wC cs a K ++ wT cs b T) H → va_D A (wC cs a K ++ wT cs b T) → va_S A s.heap H locs → K59 x7 x9 K = some res → W p l e ({ frames := 2, cells := 0, slots := 0, locals := 56 }) s m args below meth c H locs 0 0 Q (F0 m 59 ls [])) (hK185 : ∀ (x7 : Int64) (K : Ch) (H : Heap) (locs : List Loc) (ls : Array Slot), lv_has ls 14 [(0, .ref (a 0)), (4, .int (x4)), (7, .long (x7))] → va_P (dC, dI) vwCl (wC cs a K ++ wT cs b T) H → va_D A (wC cs a K ++ wT cs b T) → va_S A s.heap H locs → K185 x7 K = some res → W p l e ({ frames := 2, cells := 0, slots := 0, locals := 56 }) s m args below meth c H locs 0 0 Q (F0 m 185 ls [])) (H : Heap) (locs : List Loc) (ls : Array Slot) (hl : lv_has ls 14 [(0, .ref (a 0)), (1, .ref (b 0)), (2, .int (x2)), (3, .int (x3)), (4, .int (x4)), (5, .int (x5)), (6, .int (x6)), (7, .long (x7)), (9, .int (x9))]) (hP : va_P (dC, dI) vwCl (wC cs a K ++ wT cs b T) H) (hD : va_D A (wC cs a K ++ wT cs b T)) (hS : va_S A s.heap H locs) (hf : f_X0_giveToTheEnd_59 x2 x3 x4 x5 x6 x7 x9 K T K59 K185 = some res) : W p l e ({ frames := 2, cells := 0, slots := 0, locals := 56 }) s m args below meth c H locs 0 0 Q (F0 m 59 ls []) := by
  obtain ⟨hx, hb, hml, hown, hts⟩ := id C
  obtain ⟨hK, hN⟩ := id G
  unfold f_X0_giveToTheEnd_59 at hf
  refine lv_iload hx hb dX0_giveToTheEnd_59 (lv_at hl 8 rfl) ?_
  refine lv_iload hx hb dX0_giveToTheEnd_61 (lv_at hl 4 rfl) ?_
  refine lv_icmp_gt (tgt := 185) hx hb dX0_giveToTheEnd_63 (by decide) (fun c1 => ?_) (fun c1 => ?_)
  · replace hf := it_t c1 hf
    exact hK185 x7 K _ _ _ (lv_sub hl [0, 4, 7] rfl) hP hD hS hf
  · replace hf := it_f c1 hf
    refine lv_aload_n hx hb dX0_giveToTheEnd_66 rfl (lv_at hl 0 rfl) ?_
    refine va_get (D := (dC, dI)) (ci := 0) (v := .ref (a 1)) (C := RX0) (T := TX0) (N := 3) hx hb hts in_X0_giveToTheEnd_X0 hown hK hP 0 rfl rfl 2 (by decide) (hts (.fieldLink RX0 18 "BackLoans$Chance" "weight" "[J") (by decide +kernel)) (fun _ h9 => h9) rfl dX0_giveToTheEnd_67 ?_
    refine lv_iload hx hb dX0_giveToTheEnd_70 (lv_at hl 8 rfl) ?_
    refine lv_lconst (v := 0) hx hb dX0_giveToTheEnd_72 (by decide) ?_
    obtain ⟨hi2, hf⟩ := gi_e hf
    refine va_last hx hb hK hP hD hS 1 1 rfl rfl hi2 dX0_giveToTheEnd_73 (fun H locs hP hD hS => ?_)
    obtain ⟨K_73, hP, hD, hf⟩ := st_nm (ws := fun K_73 : Ch => (wC cs a K_73 ++ wT cs b T)) ((K.1, vp_updL K.2 (x9).toNatClampNeg ((0 : Int64)))) hP hD hf
    refine lv_iload hx hb dX0_giveToTheEnd_74 (lv_at hl 8 rfl) ?_
    refine lv_istore (lv' := [(10, .int (x9)), (0, .ref (a 0)), (1, .ref (b 0)), (2, .int (x2)), (3, .int (x3)), (4, .int (x4)), (5, .int (x5)), (6, .int (x6)), (7, .long (x7)), (9, .int (x9))]) hx hb dX0_giveToTheEnd_76 hl (by decide) rfl (fun ls hl => ?_)
    exact w_X0_giveToTheEnd_78 C G hA hR x2 x3 x4 x5 x6 x7 x9 T (fun Kz H locs ls hl hP hD hS hf => b_X0_giveToTheEnd_171 C G hA hR x2 x3 x4 x5 x6 x7 x9 Kz T hK59 _ _ _ hl hP hD hS hf) FU x9 K_73 _ _ _ (lv_sub hl [1, 2, 3, 4, 5, 6, 7, 8, 9, 0] rfl) hP hD hS hf
def l_X0_giveToTheEnd_59 (x2 : Int32) (x3 : Int32) (x4 : Int32) (x5 : Int32) (x6 : Int32) (T : Tw) (K185 : Int64 → Ch → Option Ch) (n : Nat) (x7 : Int64) (x9 : Int32) (K : Ch) : Option Ch := itr (fun (k : Int64 × Int32 × Ch → Option Ch) (z : Int64 × Int32 × Ch) => f_X0_giveToTheEnd_59 x2 x3 x4 x5 x6 z.1 z.2.1 z.2.2 T (fun x7 x9 K => k (x7, x9, K)) K185) n (x7, x9, K)
set_option maxHeartbeats 4000000 in
set_option maxRecDepth 100000 in
theorem w_X0_giveToTheEnd_59 {p : Program} {l : Launch} {e : Env} {s : State} {m : MethodId} {args : Array Value} {below : List Frame} {meth : Method} {c : Code} {Q : State → Prop} {dC : Nat → ClassId} {dI : Nat → Nat → Nat} {cs : Nat → ClassId} {A : Nat → Prop} {a : Nat → Nat} {b : Nat → Nat} {res : Ch} (C : CallFix p m c cX0_giveToTheEnd 14 s args wsX0_giveToTheEnd RX0) (G : GE dC dI cs s) (hA : ∀ q : Nat, s.heap.size ≤ q → A q) {T : Tw} (hR : RTv p l e ({ frames := 2, cells := 0, slots := 0, locals := 56 }) s m args below meth c cX0_giveToTheEnd Q (dC, dI) A (fun u : Ch => (wC cs a u ++ wT cs b T)) res) (x2 : Int32) (x3 : Int32) (x4 : Int32) (x5 : Int32) (x6 : Int32) (_ : Tw) {K185 : Int64 → Ch → Option Ch} (hK185 : ∀ (x7 : Int64) (K : Ch) (H : Heap) (locs : List Loc) (ls : Array Slot), lv_has ls 14 [(0, .ref (a 0)), (4, .int (x4)), (7, .long (x7))] → va_P (dC, dI) vwCl (wC cs a K ++ wT cs b T) H → va_D A (wC cs a K ++ wT cs b T) → va_S A s.heap H locs → K185 x7 K = some res → W p l e ({ frames := 2, cells := 0, slots := 0, locals := 56 }) s m args below meth c H locs 0 0 Q (F0 m 185 ls [])) : ∀ (n : Nat) (x7 : Int64) (x9 : Int32) (K : Ch) (H : Heap) (locs : List Loc) (ls : Array Slot), lv_has ls 14 [(0, .ref (a 0)), (1, .ref (b 0)), (2, .int (x2)), (3, .int (x3)), (4, .int (x4)), (5, .int (x5)), (6, .int (x6)), (7, .long (x7)), (9, .int (x9))] → va_P (dC, dI) vwCl (wC cs a K ++ wT cs b T) H → va_D A (wC cs a K ++ wT cs b T) → va_S A s.heap H locs → l_X0_giveToTheEnd_59 x2 x3 x4 x5 x6 T K185 n x7 x9 K = some res → W p l e ({ frames := 2, cells := 0, slots := 0, locals := 56 }) s m args below meth c H locs 0 0 Q (F0 m 59 ls []) := by
  intro n
  induction n with
  | zero => intro x7 x9 K H locs ls hl hP hD hS hf; exact absurd hf (by simp [l_X0_giveToTheEnd_59, itr])
  | succ n ih => intro x7 x9 K H locs ls hl hP hD hS hf; exact b_X0_giveToTheEnd_59 C G hA hR x2 x3 x4 x5 x6 x7 x9 K T (K59 := fun x7 x9 K => l_X0_giveToTheEnd_59 x2 x3 x4 x5 x6 T K185 n x7 x9 K) (fun x7 x9 K H locs ls hl hP hD hS hf => ih x7 x9 K H locs ls hl hP hD hS hf) hK185 H locs ls hl hP hD hS hf
def f_X0_giveToTheEnd_191 (x4 : Int32) (x7 : Int64) (x9 : Int64) (x11 : Int32) (K : Ch) (T : Tw) (K191 : Int64 → Int32 → Option Ch) (K216 : Int64 → Option Ch) : Option Ch :=
  if x4 < x11 then (
    K216 x9
  ) else (
    gi (x11) 13 <|
    lett (x9 + (K.2 (x11).toNatClampNeg)) fun x9_208 =>
    lett (x11 + 1) fun x11_210 =>
    K191 x9_208 x11_210
  )
set_option maxHeartbeats 4000000 in
set_option maxRecDepth 100000 in
theorem b_X0_giveToTheEnd_191 {p : Program} {l : Launch} {e : Env} {s : State} {m : MethodId} {args : Array Value} {below : List Frame} {meth : Method} {c : Code} {Q : State → Prop} {dC : Nat → ClassId} {dI : Nat → Nat → Nat} {cs : Nat → ClassId} {A : Nat → Prop} {a : Nat → Nat} {b : Nat → Nat} {res : Ch} (C : CallFix p m c cX0_giveToTheEnd 14 s args wsX0_giveToTheEnd RX0) (G : GE dC dI cs s) (hA : ∀ q : Nat, s.heap.size ≤ q → A q) {T : Tw} (hR : RTv p l e ({ frames := 2, cells := 0, slots := 0, locals := 56 }) s m args below meth c cX0_giveToTheEnd Q (dC, dI) A (fun u : Ch => (wC cs a u ++ wT cs b T)) res) (x4 : Int32) (x7 : Int64) (x9 : Int64) (x11 : Int32) (K : Ch) (_ : Tw) {K191 : Int64 → Int32 → Option Ch} {K216 : Int64 → Option Ch} (hK191 : ∀ (x9 : Int64) (x11 : Int32) (H : Heap) (locs : List Loc) (ls : Array Slot), lv_has ls 14 [(0, .ref (a 0)), (4, .int (x4)), (7, .long (x7)), (9, .long (x9)), (11, .int (x11))] → va_P (dC, dI) vwCl (wC cs a K ++ wT cs b T) H → va_D A (wC cs a K ++ wT cs b T) → va_S A s.heap H locs → K191 x9 x11 = some res → W p l e ({ frames := 2, cells := 0, slots := 0, locals := 56 }) s m args below meth c H locs 0 0 Q (F0 m 191 ls [])) (hK216 : ∀ (x9 : Int64) (H : Heap) (locs : List Loc) (ls : Array Slot), lv_has ls 14 [(0, .ref (a 0)), (7, .long (x7)), (9, .long (x9))] → va_P (dC, dI) vwCl (wC cs a K ++ wT cs b T) H → va_D A (wC cs a K ++ wT cs b T) → va_S A s.heap H locs → K216 x9 = some res → W p l e ({ frames := 2, cells := 0, slots := 0, locals := 56 }) s m args below meth c H locs 0 0 Q (F0 m 216 ls [])) (H : Heap) (locs : List Loc) (ls : Array Slot) (hl : lv_has ls 14 [(0, .ref (a 0)), (4, .int (x4)), (7, .long (x7)), (9, .long (x9)), (11, .int (x11))]) (hP : va_P (dC, dI) vwCl (wC cs a K ++ wT cs b T) H) (hD : va_D A (wC cs a K ++ wT cs b T)) (hS : va_S A s.heap H locs) (hf : f_X0_giveToTheEnd_191 x4 x7 x9 x11 K T K191 K216 = some res) : W p l e ({ frames := 2, cells := 0, slots := 0, locals := 56 }) s m args below meth c H locs 0 0 Q (F0 m 191 ls []) := by
  obtain ⟨hx, hb, hml, hown, hts⟩ := id C
  obtain ⟨hK, hN⟩ := id G
  unfold f_X0_giveToTheEnd_191 at hf
  refine lv_iload hx hb dX0_giveToTheEnd_191 (lv_at hl 4 rfl) ?_
  refine lv_iload hx hb dX0_giveToTheEnd_193 (lv_at hl 1 rfl) ?_
  refine lv_icmp_gt (tgt := 216) hx hb dX0_giveToTheEnd_195 (by decide) (fun c1 => ?_) (fun c1 => ?_)
  · replace hf := it_t c1 hf
    exact hK216 x9 _ _ _ (lv_sub hl [0, 2, 3] rfl) hP hD hS hf
  · replace hf := it_f c1 hf
    refine lv_lload hx hb dX0_giveToTheEnd_198 (lv_at hl 3 rfl) ?_
    refine lv_aload_n hx hb dX0_giveToTheEnd_200 rfl (lv_at hl 0 rfl) ?_
    refine va_get (D := (dC, dI)) (ci := 0) (v := .ref (a 1)) (C := RX0) (T := TX0) (N := 3) hx hb hts in_X0_giveToTheEnd_X0 hown hK hP 0 rfl rfl 2 (by decide) (hts (.fieldLink RX0 18 "BackLoans$Chance" "weight" "[J") (by decide +kernel)) (fun _ h9 => h9) rfl dX0_giveToTheEnd_201 ?_
    refine lv_iload hx hb dX0_giveToTheEnd_204 (lv_at hl 4 rfl) ?_
    obtain ⟨hi2, hf⟩ := gi_e hf
    refine va_lald hx hb hK hP 1 1 rfl rfl hi2 dX0_giveToTheEnd_206 ?_
    refine lv_ladd hx hb dX0_giveToTheEnd_207 ?_
    refine lv_topl (fun x9_208 ex9_208 => ?_)
    replace hf := lett_s ex9_208 hf
    refine lv_lstore (lv' := [(9, .long (x9_208)), (0, .ref (a 0)), (4, .int (x4)), (7, .long (x7)), (11, .int (x11))]) hx hb dX0_giveToTheEnd_208 hl (by decide) rfl (fun ls hl => ?_)
    obtain ⟨x11_210, ex11_210⟩ : ∃ y : Int32, y = (x11 + 1) := ⟨_, rfl⟩
    replace hf := lett_s ex11_210 hf
    refine lv_iinc (v := x11_210) (lv' := [(11, .int (x11_210)), (9, .long (x9_208)), (0, .ref (a 0)), (4, .int (x4)), (7, .long (x7))]) hx hb dX0_giveToTheEnd_210 hl (k := 4) rfl (by rw [ex11_210]; rfl) (by decide) rfl (fun ls hl => ?_)
    refine lv_goto (tgt := 191) hx hb dX0_giveToTheEnd_213 (by decide) ?_
    exact hK191 x9_208 x11_210 _ _ _ (lv_sub hl [2, 3, 4, 1, 0] rfl) hP hD hS hf
def l_X0_giveToTheEnd_191 (x4 : Int32) (x7 : Int64) (K : Ch) (T : Tw) (K216 : Int64 → Option Ch) (n : Nat) (x9 : Int64) (x11 : Int32) : Option Ch := itr (fun (k : Int64 × Int32 → Option Ch) (z : Int64 × Int32) => f_X0_giveToTheEnd_191 x4 x7 z.1 z.2 K T (fun x9 x11 => k (x9, x11)) K216) n (x9, x11)
set_option maxHeartbeats 4000000 in
set_option maxRecDepth 100000 in
theorem w_X0_giveToTheEnd_191 {p : Program} {l : Launch} {e : Env} {s : State} {m : MethodId} {args : Array Value} {below : List Frame} {meth : Method} {c : Code} {Q : State → Prop} {dC : Nat → ClassId} {dI : Nat → Nat → Nat} {cs : Nat → ClassId} {A : Nat → Prop} {a : Nat → Nat} {b : Nat → Nat} {res : Ch} (C : CallFix p m c cX0_giveToTheEnd 14 s args wsX0_giveToTheEnd RX0) (G : GE dC dI cs s) (hA : ∀ q : Nat, s.heap.size ≤ q → A q) {T : Tw} (hR : RTv p l e ({ frames := 2, cells := 0, slots := 0, locals := 56 }) s m args below meth c cX0_giveToTheEnd Q (dC, dI) A (fun u : Ch => (wC cs a u ++ wT cs b T)) res) (x4 : Int32) (x7 : Int64) (K : Ch) (_ : Tw) {K216 : Int64 → Option Ch} (hK216 : ∀ (x9 : Int64) (H : Heap) (locs : List Loc) (ls : Array Slot), lv_has ls 14 [(0, .ref (a 0)), (7, .long (x7)), (9, .long (x9))] → va_P (dC, dI) vwCl (wC cs a K ++ wT cs b T) H → va_D A (wC cs a K ++ wT cs b T) → va_S A s.heap H locs → K216 x9 = some res → W p l e ({ frames := 2, cells := 0, slots := 0, locals := 56 }) s m args below meth c H locs 0 0 Q (F0 m 216 ls [])) : ∀ (n : Nat) (x9 : Int64) (x11 : Int32) (H : Heap) (locs : List Loc) (ls : Array Slot), lv_has ls 14 [(0, .ref (a 0)), (4, .int (x4)), (7, .long (x7)), (9, .long (x9)), (11, .int (x11))] → va_P (dC, dI) vwCl (wC cs a K ++ wT cs b T) H → va_D A (wC cs a K ++ wT cs b T) → va_S A s.heap H locs → l_X0_giveToTheEnd_191 x4 x7 K T K216 n x9 x11 = some res → W p l e ({ frames := 2, cells := 0, slots := 0, locals := 56 }) s m args below meth c H locs 0 0 Q (F0 m 191 ls []) := by
  intro n
  induction n with
  | zero => intro x9 x11 H locs ls hl hP hD hS hf; exact absurd hf (by simp [l_X0_giveToTheEnd_191, itr])
  | succ n ih => intro x9 x11 H locs ls hl hP hD hS hf; exact b_X0_giveToTheEnd_191 C G hA hR x4 x7 x9 x11 K T (K191 := fun x9 x11 => l_X0_giveToTheEnd_191 x4 x7 K T K216 n x9 x11) (fun x9 x11 H locs ls hl hP hD hS hf => ih x9 x11 H locs ls hl hP hD hS hf) hK216 H locs ls hl hP hD hS hf
def f_X0_giveToTheEnd_216 (x7 : Int64) (x9 : Int64) (K : Ch) (T : Tw)  : Option Ch :=
  bn (f_X0_setLowest x9 x7 K) fun r221 =>
  some r221
set_option maxHeartbeats 4000000 in
set_option maxRecDepth 100000 in
theorem b_X0_giveToTheEnd_216 {p : Program} {l : Launch} {e : Env} {s : State} {m : MethodId} {args : Array Value} {below : List Frame} {meth : Method} {c : Code} {Q : State → Prop} {dC : Nat → ClassId} {dI : Nat → Nat → Nat} {cs : Nat → ClassId} {A : Nat → Prop} {a : Nat → Nat} {b : Nat → Nat} {res : Ch} (C : CallFix p m c cX0_giveToTheEnd 14 s args wsX0_giveToTheEnd RX0) (G : GE dC dI cs s) (hA : ∀ q : Nat, s.heap.size ≤ q → A q) {T : Tw} (hR : RTv p l e ({ frames := 2, cells := 0, slots := 0, locals := 56 }) s m args below meth c cX0_giveToTheEnd Q (dC, dI) A (fun u : Ch => (wC cs a u ++ wT cs b T)) res) (x7 : Int64) (x9 : Int64) (K : Ch) (_ : Tw)   (H : Heap) (locs : List Loc) (ls : Array Slot) (hl : lv_has ls 14 [(0, .ref (a 0)), (7, .long (x7)), (9, .long (x9))]) (hP : va_P (dC, dI) vwCl (wC cs a K ++ wT cs b T) H) (hD : va_D A (wC cs a K ++ wT cs b T)) (hS : va_S A s.heap H locs) (hf : f_X0_giveToTheEnd_216 x7 x9 K T = some res) : W p l e ({ frames := 2, cells := 0, slots := 0, locals := 56 }) s m args below meth c H locs 0 0 Q (F0 m 216 ls []) := by
  obtain ⟨hx, hb, hml, hown, hts⟩ := id C
  obtain ⟨hK, hN⟩ := id G
  unfold f_X0_giveToTheEnd_216 at hf
  refine lv_aload_n hx hb dX0_giveToTheEnd_216 rfl (lv_at hl 0 rfl) ?_
  refine lv_lload hx hb dX0_giveToTheEnd_217 (lv_at hl 2 rfl) ?_
  refine lv_lload hx hb dX0_giveToTheEnd_219 (lv_at hl 1 rfl) ?_
  obtain ⟨r221, hr221, hf⟩ := bn_e hf
  have hPc := hP.sub (ws' := (wC cs a K)) [0, 1] rfl
  have hDc := hD.sub (ws' := (wC cs a K)) [0, 1] (by decide) rfl
  have hFc := va_free (wc := (wC cs a K)) hD hS hA [0, 1] rfl
  refine va_callv (va_runV (As := [.long (x9), .long (x7)]) (rest := []) C (c_X0_setLowest l dC dI cs a H.size K x9 x7 r221 hr221) (cwV 2 hts gX0_giveToTheEnd_X0_setLowest rfl rfl rfl (by decide +kernel) ⟨Nat.le_of_ble_eq_true rfl, Nat.le_of_ble_eq_true rfl⟩) ⟨(fun a U g mk q => ⟨q.1, q.2.1, q.2.2.1, GE.calling q.2.2.2.1, q.2.2.2.2⟩), va_recv hK hPc (ci := 0) (q0 := 0) rfl rfl, (fun U hU hW => ⟨rfl, by rw [hU], by rw [hU]; exact hPc, GE.warm hW G, hDc.weaken (fun _ _ _ _ => trivial)⟩)⟩ rfl rfl hl.1 rfl (lv_room (Nat.le_of_ble_eq_true rfl)) dX0_giveToTheEnd_221 ⟨Nat.le_of_ble_eq_true rfl, Nat.le_of_ble_eq_true rfl⟩) hS (fun q _ h => hFc q h) hFc (fun u t H1 locs ht hvm hw hB hz1 hk1 hS => ?_)
  obtain rfl := hw.symm
  obtain ⟨hP1, hD1⟩ := hB
  rw [ht] at hP1
  obtain ⟨hP, hD⟩ := va_join (wr := [2, 3, 4, 5, 6, 7, 8, 9, 10, 11, 12].filterMap (fun i => ((wC cs a K ++ wT cs b T))[i]?)) (w1 := (wC cs a r221)) hP hD [0, 1] [2, 3, 4, 5, 6, 7, 8, 9, 10, 11, 12] rfl rfl (by decide) (by decide) hk1 hFc hP1 hD1
  generalize H1 = H at hP hS ⊢
  have hP := hP.sub (ws' := (wC cs a r221 ++ wT cs b T)) [11, 12, 0, 1, 2, 3, 4, 5, 6, 7, 8, 9, 10] rfl
  have hD := hD.sub (ws' := (wC cs a r221 ++ wT cs b T)) [11, 12, 0, 1, 2, 3, 4, 5, 6, 7, 8, 9, 10] (by decide) rfl
  exact hR _ _ _ _ _ dX0_giveToTheEnd_224 hf hP hD hS
def f_X0_giveToTheEnd_185 (x4 : Int32) (x7 : Int64) (K : Ch) (T : Tw)  : Option Ch :=
  lett (0 : Int64) fun x9_186 =>
  lett (0 : Int32) fun x11_189 =>
  l_X0_giveToTheEnd_191 x4 x7 K T (fun x9 => f_X0_giveToTheEnd_216 x7 x9 K T) FU x9_186 x11_189
set_option maxHeartbeats 4000000 in
set_option maxRecDepth 100000 in
theorem b_X0_giveToTheEnd_185 {p : Program} {l : Launch} {e : Env} {s : State} {m : MethodId} {args : Array Value} {below : List Frame} {meth : Method} {c : Code} {Q : State → Prop} {dC : Nat → ClassId} {dI : Nat → Nat → Nat} {cs : Nat → ClassId} {A : Nat → Prop} {a : Nat → Nat} {b : Nat → Nat} {res : Ch} (C : CallFix p m c cX0_giveToTheEnd 14 s args wsX0_giveToTheEnd RX0) (G : GE dC dI cs s) (hA : ∀ q : Nat, s.heap.size ≤ q → A q) {T : Tw} (hR : RTv p l e ({ frames := 2, cells := 0, slots := 0, locals := 56 }) s m args below meth c cX0_giveToTheEnd Q (dC, dI) A (fun u : Ch => (wC cs a u ++ wT cs b T)) res) (x4 : Int32) (x7 : Int64) (K : Ch) (_ : Tw)   (H : Heap) (locs : List Loc) (ls : Array Slot) (hl : lv_has ls 14 [(0, .ref (a 0)), (4, .int (x4)), (7, .long (x7))]) (hP : va_P (dC, dI) vwCl (wC cs a K ++ wT cs b T) H) (hD : va_D A (wC cs a K ++ wT cs b T)) (hS : va_S A s.heap H locs) (hf : f_X0_giveToTheEnd_185 x4 x7 K T = some res) : W p l e ({ frames := 2, cells := 0, slots := 0, locals := 56 }) s m args below meth c H locs 0 0 Q (F0 m 185 ls []) := by
  obtain ⟨hx, hb, hml, hown, hts⟩ := id C
  obtain ⟨hK, hN⟩ := id G
  unfold f_X0_giveToTheEnd_185 at hf
  refine lv_lconst (v := 0) hx hb dX0_giveToTheEnd_185 (by decide) ?_
  refine lv_topl (fun x9_186 ex9_186 => ?_)
  replace hf := lett_s ex9_186 hf
  refine lv_lstore (lv' := [(9, .long (x9_186)), (0, .ref (a 0)), (4, .int (x4)), (7, .long (x7))]) hx hb dX0_giveToTheEnd_186 hl (by decide) rfl (fun ls hl => ?_)
  refine lv_iconst (v := 0) hx hb dX0_giveToTheEnd_188 (by decide) ?_
  refine lv_topi (fun x11_189 ex11_189 => ?_)
  replace hf := lett_s ex11_189 hf
  refine lv_istore (lv' := [(11, .int (x11_189)), (9, .long (x9_186)), (0, .ref (a 0)), (4, .int (x4)), (7, .long (x7))]) hx hb dX0_giveToTheEnd_189 hl (by decide) rfl (fun ls hl => ?_)
  exact w_X0_giveToTheEnd_191 C G hA hR x4 x7 K T (fun x9 H locs ls hl hP hD hS hf => b_X0_giveToTheEnd_216 C G hA hR x7 x9 K T _ _ _ hl hP hD hS hf) FU x9_186 x11_189 _ _ _ (lv_sub hl [2, 3, 4, 1, 0] rfl) hP hD hS hf
def f_X0_giveToTheEnd (x2 : Int32) (x3 : Int32) (K : Ch) (T : Tw) : Option Ch :=
  gi (x2) 8 <|
  gi (x2) 8 <|
  lett (if (((T.2 5) (x2).toNatClampNeg) - ((T.2 7) (x2).toNatClampNeg)) < (12 : Int32) then (((T.2 5) (x2).toNatClampNeg) - ((T.2 7) (x2).toNatClampNeg)) else (12 : Int32)) fun x4_18 =>
  gi (x2) 8 <|
  gi (((T.2 3) (x2).toNatClampNeg)) 6 <|
  lett ((T.2 2) (((T.2 3) (x2).toNatClampNeg)).toNatClampNeg) fun x5_31 =>
  gi (x2) 8 <|
  gi (((T.2 3) (x2).toNatClampNeg)) 6 <|
  lett ((T.2 1) (((T.2 3) (x2).toNatClampNeg)).toNatClampNeg) fun x6_44 =>
  gi ((0 : Int32)) 13 <|
  lett ((K.1, vp_updL K.2 ((0 : Int32)).toNatClampNeg ((1 : Int64)))) fun K_52 =>
  lett (1 : Int64) fun x7_54 =>
  lett (1 : Int32) fun x9_57 =>
  l_X0_giveToTheEnd_59 x2 x3 x4_18 x5_31 x6_44 T (fun x7 Kz => f_X0_giveToTheEnd_185 x4_18 x7 Kz T) FU x7_54 x9_57 K_52
set_option maxHeartbeats 4000000 in
set_option maxRecDepth 100000 in
theorem c_X0_giveToTheEnd (l : Launch) (dC : Nat → ClassId) (dI : Nat → Nat → Nat) (cs : Nat → ClassId) (a : Nat → Nat) (b : Nat → Nat) (sz : Nat) (K : Ch) (T : Tw) (x2 : Int32) (x3 : Int32) (res : Ch) (hf : f_X0_giveToTheEnd x2 x3 K T = some res) : Met l yX0_giveToTheEnd wsX0_giveToTheEnd ({ frames := 2, cells := 0, slots := 0, locals := 56 }) (va_Pc [.ref (a 0), .ref (b 0), .int (x2), .int (x3)] (fun U => U.heap.size = sz ∧ va_P (dC, dI) vwCl (wC cs a K ++ wT cs b T) U.heap ∧ GE dC dI cs U ∧ va_D (fun _ => True) (wC cs a K ++ wT cs b T))) (va_Qv (fun u : Ch => u = res) (fun u t => va_P (dC, dI) vwCl ((fun u : Ch => (wC cs a u ++ wT cs b T)) u) t.heap ∧ va_D (va_A (wC cs a K ++ wT cs b T) sz) ((fun u : Ch => (wC cs a u ++ wT cs b T)) u)) (va_A (wC cs a K ++ wT cs b T) sz)) 0 0 (va_A (wC cs a K ++ wT cs b T) sz) := by
  refine Met.ofW (cc := cX0_giveToTheEnd) (maxL := 14) (ret := none) (by decide) rfl ?_
  intro p e s m args below meth c s₁ B hml hv
  obtain ⟨rfl, hsz, hP, G, hD0⟩ := hv
  have hts := atoms_spec (ws := wsX0_giveToTheEnd) B.pre
  have hown : s.vm.findClass RX0 = some m.cls := findClass_of_methodNamed B.named
  have hlocks := B.notSynchronized
  have hx := B.exec
  have hb := B.bytes
  have hr := B.returns
  have C : CallFix p m c cX0_giveToTheEnd 14 s _ wsX0_giveToTheEnd RX0 := ⟨hx, hb, hml, hown, hts⟩
  obtain ⟨hK, hN⟩ := id G
  subst hsz
  have hD := hD0.self (sz := s.heap.size)
  generalize hAe : va_A (wC cs a K ++ wT cs b T) s.heap.size = A at hD ⊢
  have hA : ∀ q : Nat, s.heap.size ≤ q → A q := fun q h => by rw [← hAe]; exact Or.inr h
  have hS : va_S A s.heap s.heap [] := va_S.rf
  have hR : RTv p l e ({ frames := 2, cells := 0, slots := 0, locals := 56 }) s m ([.ref (a 0), .ref (b 0), .int (x2), .int (x3)] : List Value).toArray below meth c cX0_giveToTheEnd (MQ below (va_Qv (fun u : Ch => u = res) (fun u t => va_P (dC, dI) vwCl ((fun u : Ch => (wC cs a u ++ wT cs b T)) u) t.heap ∧ va_D A ((fun u : Ch => (wC cs a u ++ wT cs b T)) u)) A) ([.ref (a 0), .ref (b 0), .int (x2), .int (x3)] : List Value).toArray s 0 0 A) (dC, dI) A (fun u : Ch => (wC cs a u ++ wT cs b T)) res := fun H locs pc ls u dd h hP hD hS => W.vret hx hb hr (fun t ht hW => ⟨⟨u, rfl, by cases h; rfl, by rw [ht]; exact hP, hD⟩, hS.F ht⟩) hS.2.2 dd
  have hl := lv_entry ([.ref (a 0), .ref (b 0), .int (x2), .int (x3)]) (n := 14) (Nat.le_of_ble_eq_true rfl)
  rw [lg_entry_eq]
  generalize (lg_sl ([.ref (a 0), .ref (b 0), .int (x2), .int (x3)]) ++ List.replicate (14 - (lg_sl ([.ref (a 0), .ref (b 0), .int (x2), .int (x3)])).length) Slot.unset).toArray = ls at hl ⊢
  have hl : lv_has ls 14 [(0, .ref (a 0)), (1, .ref (b 0)), (2, .int (x2)), (3, .int (x3))] := hl
  unfold f_X0_giveToTheEnd at hf
  refine lv_bipush (v := 12) hx hb dX0_giveToTheEnd_0 (by decide) ?_
  refine lv_aload_n hx hb dX0_giveToTheEnd_2 rfl (lv_at hl 1 rfl) ?_
  refine va_get (D := (dC, dI)) (ci := 5) (v := .ref (b 6)) (C := RX5) (T := TX5) (N := 17) hx hb hts in_X0_giveToTheEnd_X5 hown hK hP 2 rfl rfl 12 (by decide) (hts (.fieldLink RX0 22 "BackLoans$Town" "times" "[I") (by decide +kernel)) (fun _ h9 => h9) rfl dX0_giveToTheEnd_3 ?_
  refine lv_iload_n hx hb dX0_giveToTheEnd_6 rfl (lv_at hl 2 rfl) ?_
  obtain ⟨hi1, hf⟩ := gi_e hf
  refine va_iald hx hb hK hP 8 0 rfl rfl hi1 dX0_giveToTheEnd_7 ?_
  refine lv_aload_n hx hb dX0_giveToTheEnd_8 rfl (lv_at hl 1 rfl) ?_
  refine va_get (D := (dC, dI)) (ci := 5) (v := .ref (b 8)) (C := RX5) (T := TX5) (N := 17) hx hb hts in_X0_giveToTheEnd_X5 hown hK hP 2 rfl rfl 14 (by decide) (hts (.fieldLink RX0 28 "BackLoans$Town" "given" "[I") (by decide +kernel)) (fun _ h9 => h9) rfl dX0_giveToTheEnd_9 ?_
  refine lv_iload_n hx hb dX0_giveToTheEnd_12 rfl (lv_at hl 2 rfl) ?_
  obtain ⟨hi2, hf⟩ := gi_e hf
  refine va_iald hx hb hK hP 10 0 rfl rfl hi2 dX0_giveToTheEnd_13 ?_
  refine lv_isub hx hb dX0_giveToTheEnd_14 ?_
  refine va_mmin hx hb (hml.trans hl.1.symm) hown (hts (.methodLink RX0 31 Lib.Math.min.name) (by decide +kernel)) (hts (.static Lib.Math.min.name) (by decide +kernel)) (hts (.initialized "java/lang/Math") (by decide +kernel)) (hts (.code Lib.Math.min.name Lib.Math.min.code 2 (some .int)) (by decide +kernel)) (Nat.le_of_ble_eq_true rfl) (Nat.le_of_ble_eq_true rfl) (Nat.le_of_ble_eq_true rfl) (Nat.le_of_ble_eq_true rfl) dX0_giveToTheEnd_15 ?_
  refine lv_topi (fun x4_18 ex4_18 => ?_)
  replace hf := lett_s ex4_18 hf
  refine lv_istore (lv' := [(4, .int (x4_18)), (0, .ref (a 0)), (1, .ref (b 0)), (2, .int (x2)), (3, .int (x3))]) hx hb dX0_giveToTheEnd_18 hl (by decide) rfl (fun ls hl => ?_)
  refine lv_aload_n hx hb dX0_giveToTheEnd_20 rfl (lv_at hl 2 rfl) ?_
  refine va_get (D := (dC, dI)) (ci := 5) (v := .ref (b 3)) (C := RX5) (T := TX5) (N := 17) hx hb hts in_X0_giveToTheEnd_X5 hown hK hP 2 rfl rfl 9 (by decide) (hts (.fieldLink RX0 37 "BackLoans$Town" "purse" "[I") (by decide +kernel)) (fun _ h9 => h9) rfl dX0_giveToTheEnd_21 ?_
  refine lv_aload_n hx hb dX0_giveToTheEnd_24 rfl (lv_at hl 2 rfl) ?_
  refine va_get (D := (dC, dI)) (ci := 5) (v := .ref (b 4)) (C := RX5) (T := TX5) (N := 17) hx hb hts in_X0_giveToTheEnd_X5 hown hK hP 2 rfl rfl 10 (by decide) (hts (.fieldLink RX0 40 "BackLoans$Town" "owner" "[I") (by decide +kernel)) (fun _ h9 => h9) rfl dX0_giveToTheEnd_25 ?_
  refine lv_iload_n hx hb dX0_giveToTheEnd_28 rfl (lv_at hl 3 rfl) ?_
  obtain ⟨hi3, hf⟩ := gi_e hf
  refine va_iald hx hb hK hP 6 0 rfl rfl hi3 dX0_giveToTheEnd_29 ?_
  obtain ⟨hi4, hf⟩ := gi_e hf
  refine va_iald hx hb hK hP 5 0 rfl rfl hi4 dX0_giveToTheEnd_30 ?_
  refine lv_topi (fun x5_31 ex5_31 => ?_)
  replace hf := lett_s ex5_31 hf
  refine lv_istore (lv' := [(5, .int (x5_31)), (4, .int (x4_18)), (0, .ref (a 0)), (1, .ref (b 0)), (2, .int (x2)), (3, .int (x3))]) hx hb dX0_giveToTheEnd_31 hl (by decide) rfl (fun ls hl => ?_)
  refine lv_aload_n hx hb dX0_giveToTheEnd_33 rfl (lv_at hl 3 rfl) ?_
  refine va_get (D := (dC, dI)) (ci := 5) (v := .ref (b 2)) (C := RX5) (T := TX5) (N := 17) hx hb hts in_X0_giveToTheEnd_X5 hown hK hP 2 rfl rfl 8 (by decide) (hts (.fieldLink RX0 43 "BackLoans$Town" "means" "[I") (by decide +kernel)) (fun _ h9 => h9) rfl dX0_giveToTheEnd_34 ?_
  refine lv_aload_n hx hb dX0_giveToTheEnd_37 rfl (lv_at hl 3 rfl) ?_
  refine va_get (D := (dC, dI)) (ci := 5) (v := .ref (b 4)) (C := RX5) (T := TX5) (N := 17) hx hb hts in_X0_giveToTheEnd_X5 hown hK hP 2 rfl rfl 10 (by decide) (hts (.fieldLink RX0 40 "BackLoans$Town" "owner" "[I") (by decide +kernel)) (fun _ h9 => h9) rfl dX0_giveToTheEnd_38 ?_
  refine lv_iload_n hx hb dX0_giveToTheEnd_41 rfl (lv_at hl 4 rfl) ?_
  obtain ⟨hi5, hf⟩ := gi_e hf
  refine va_iald hx hb hK hP 6 0 rfl rfl hi5 dX0_giveToTheEnd_42 ?_
  obtain ⟨hi6, hf⟩ := gi_e hf
  refine va_iald hx hb hK hP 4 0 rfl rfl hi6 dX0_giveToTheEnd_43 ?_
  refine lv_topi (fun x6_44 ex6_44 => ?_)
  replace hf := lett_s ex6_44 hf
  refine lv_istore (lv' := [(6, .int (x6_44)), (5, .int (x5_31)), (4, .int (x4_18)), (0, .ref (a 0)), (1, .ref (b 0)), (2, .int (x2)), (3, .int (x3))]) hx hb dX0_giveToTheEnd_44 hl (by decide) rfl (fun ls hl => ?_)
  refine lv_aload_n hx hb dX0_giveToTheEnd_46 rfl (lv_at hl 3 rfl) ?_
  refine va_get (D := (dC, dI)) (ci := 0) (v := .ref (a 1)) (C := RX0) (T := TX0) (N := 3) hx hb hts in_X0_giveToTheEnd_X0 hown hK hP 0 rfl rfl 2 (by decide) (hts (.fieldLink RX0 18 "BackLoans$Chance" "weight" "[J") (by decide +kernel)) (fun _ h9 => h9) rfl dX0_giveToTheEnd_47 ?_
  refine lv_iconst (v := 0) hx hb dX0_giveToTheEnd_50 (by decide) ?_
  refine lv_lconst (v := 1) hx hb dX0_giveToTheEnd_51 (by decide) ?_
  obtain ⟨hi7, hf⟩ := gi_e hf
  refine va_last hx hb hK hP hD hS 1 1 rfl rfl hi7 dX0_giveToTheEnd_52 (fun H locs hP hD hS => ?_)
  obtain ⟨K_52, hP, hD, hf⟩ := st_nm (ws := fun K_52 : Ch => (wC cs a K_52 ++ wT cs b T)) ((K.1, vp_updL K.2 ((0 : Int32)).toNatClampNeg ((1 : Int64)))) hP hD hf
  refine lv_lconst (v := 1) hx hb dX0_giveToTheEnd_53 (by decide) ?_
  refine lv_topl (fun x7_54 ex7_54 => ?_)
  replace hf := lett_s ex7_54 hf
  refine lv_lstore (lv' := [(7, .long (x7_54)), (6, .int (x6_44)), (5, .int (x5_31)), (4, .int (x4_18)), (0, .ref (a 0)), (1, .ref (b 0)), (2, .int (x2)), (3, .int (x3))]) hx hb dX0_giveToTheEnd_54 hl (by decide) rfl (fun ls hl => ?_)
  refine lv_iconst (v := 1) hx hb dX0_giveToTheEnd_56 (by decide) ?_
  refine lv_topi (fun x9_57 ex9_57 => ?_)
  replace hf := lett_s ex9_57 hf
  refine lv_istore (lv' := [(9, .int (x9_57)), (7, .long (x7_54)), (6, .int (x6_44)), (5, .int (x5_31)), (4, .int (x4_18)), (0, .ref (a 0)), (1, .ref (b 0)), (2, .int (x2)), (3, .int (x3))]) hx hb dX0_giveToTheEnd_57 hl (by decide) rfl (fun ls hl => ?_)
  exact w_X0_giveToTheEnd_59 C G hA hR x2 x3 x4_18 x5_31 x6_44 T (fun x7 Kz H locs ls hl hP hD hS hf => b_X0_giveToTheEnd_185 C G hA hR x4_18 x7 Kz T _ _ _ hl hP hD hS hf) FU x7_54 x9_57 K_52 _ _ _ (lv_sub hl [5, 6, 7, 8, 4, 3, 2, 1, 0] rfl) hP hD hS hf

theorem in_X6_countWays_X6 : ∀ w ∈ wsX60, w ∈ wsX6_countWays := by decide +kernel
def f_X6_countWays_4 (x1 : Int32) (x2 : Int32) (L : Wl) (K4 : Int32 → Int32 → Option Int32) : Option Int32 :=
  if (L.1 1) ≤ x2 then (
    some x1
  ) else (
    lett (x1 * (L.1 2)) fun x1_18 =>
    lett (x2 + 1) fun x2_19 =>
    K4 x1_18 x2_19
  )
set_option maxHeartbeats 4000000 in
set_option maxRecDepth 100000 in
theorem b_X6_countWays_4 {p : Program} {l : Launch} {e : Env} {s : State} {m : MethodId} {args : Array Value} {below : List Frame} {meth : Method} {c : Code} {Q : State → Prop} {dC : Nat → ClassId} {dI : Nat → Nat → Nat} {cs : Nat → ClassId} {a : Nat → Nat} {res : Int32} (C : CallFix p m c cX6_countWays 3 s args wsX6_countWays RX6) (G : GE dC dI cs s) (hR : RPi p l e ({ frames := 0, cells := 0, slots := 0, locals := 0 }) s m args below meth c cX6_countWays Q res) {L : Wl} (hP : va_P (dC, dI) vwCl (wW cs a L) s.heap) (x1 : Int32) (x2 : Int32) (_ : Wl) {K4 : Int32 → Int32 → Option Int32} (hK4 : ∀ (x1 : Int32) (x2 : Int32) (ls : Array Slot), lv_has ls 3 [(0, .ref (a 0)), (1, .int (x1)), (2, .int (x2))] → K4 x1 x2 = some res → W p l e ({ frames := 0, cells := 0, slots := 0, locals := 0 }) s m args below meth c s.heap [] 0 0 Q (F0 m 4 ls [])) (ls : Array Slot) (hl : lv_has ls 3 [(0, .ref (a 0)), (1, .int (x1)), (2, .int (x2))]) (hf : f_X6_countWays_4 x1 x2 L K4 = some res) : W p l e ({ frames := 0, cells := 0, slots := 0, locals := 0 }) s m args below meth c s.heap [] 0 0 Q (F0 m 4 ls []) := by
  obtain ⟨hx, hb, hml, hown, hts⟩ := id C
  obtain ⟨hK, hN⟩ := id G
  unfold f_X6_countWays_4 at hf
  refine lv_iload_n hx hb dX6_countWays_4 rfl (lv_at hl 2 rfl) ?_
  refine lv_aload_n hx hb dX6_countWays_5 rfl (lv_at hl 0 rfl) ?_
  refine va_get (D := (dC, dI)) (ci := 6) (v := .int ((L.1 1))) (C := RX6) (T := TX6) (N := 7) hx hb hts in_X6_countWays_X6 hown hK hP 0 rfl rfl 1 (by decide) (hts (.fieldLink RX6 43 "BackLoans$Will" "parts" "I") (by decide +kernel)) (fun _ h9 => h9) rfl dX6_countWays_6 ?_
  refine lv_icmp_ge (tgt := 25) hx hb dX6_countWays_9 (by decide) (fun c1 => ?_) (fun c1 => ?_)
  · replace hf := it_t c1 hf
    refine lv_iload_n hx hb dX6_countWays_25 rfl (lv_at hl 1 rfl) ?_
    exact hR _ _ _ dX6_countWays_26 hf
  · replace hf := it_f c1 hf
    refine lv_iload_n hx hb dX6_countWays_12 rfl (lv_at hl 1 rfl) ?_
    refine lv_aload_n hx hb dX6_countWays_13 rfl (lv_at hl 0 rfl) ?_
    refine va_get (D := (dC, dI)) (ci := 6) (v := .int ((L.1 2))) (C := RX6) (T := TX6) (N := 7) hx hb hts in_X6_countWays_X6 hown hK hP 0 rfl rfl 2 (by decide) (hts (.fieldLink RX6 46 "BackLoans$Will" "heirs" "I") (by decide +kernel)) (fun _ h9 => h9) rfl dX6_countWays_14 ?_
    refine lv_imul hx hb dX6_countWays_17 ?_
    refine lv_topi (fun x1_18 ex1_18 => ?_)
    replace hf := lett_s ex1_18 hf
    refine lv_istore_n (lv' := [(1, .int (x1_18)), (0, .ref (a 0)), (2, .int (x2))]) hx hb dX6_countWays_18 rfl hl (by decide) rfl (fun ls hl => ?_)
    obtain ⟨x2_19, ex2_19⟩ : ∃ y : Int32, y = (x2 + 1) := ⟨_, rfl⟩
    replace hf := lett_s ex2_19 hf
    refine lv_iinc (v := x2_19) (lv' := [(2, .int (x2_19)), (1, .int (x1_18)), (0, .ref (a 0))]) hx hb dX6_countWays_19 hl (k := 2) rfl (by rw [ex2_19]; rfl) (by decide) rfl (fun ls hl => ?_)
    refine lv_goto (tgt := 4) hx hb dX6_countWays_22 (by decide) ?_
    exact hK4 x1_18 x2_19 _ (lv_sub hl [2, 1, 0] rfl) hf
def l_X6_countWays_4 (L : Wl)  (n : Nat) (x1 : Int32) (x2 : Int32) : Option Int32 := itr (fun (k : Int32 × Int32 → Option Int32) (z : Int32 × Int32) => f_X6_countWays_4 z.1 z.2 L (fun x1 x2 => k (x1, x2))) n (x1, x2)
set_option maxHeartbeats 4000000 in
set_option maxRecDepth 100000 in
theorem w_X6_countWays_4 {p : Program} {l : Launch} {e : Env} {s : State} {m : MethodId} {args : Array Value} {below : List Frame} {meth : Method} {c : Code} {Q : State → Prop} {dC : Nat → ClassId} {dI : Nat → Nat → Nat} {cs : Nat → ClassId} {a : Nat → Nat} {res : Int32} (C : CallFix p m c cX6_countWays 3 s args wsX6_countWays RX6) (G : GE dC dI cs s) (hR : RPi p l e ({ frames := 0, cells := 0, slots := 0, locals := 0 }) s m args below meth c cX6_countWays Q res) {L : Wl} (hP : va_P (dC, dI) vwCl (wW cs a L) s.heap)  (_ : Wl)   : ∀ (n : Nat) (x1 : Int32) (x2 : Int32) (ls : Array Slot), lv_has ls 3 [(0, .ref (a 0)), (1, .int (x1)), (2, .int (x2))] → l_X6_countWays_4 L n x1 x2 = some res → W p l e ({ frames := 0, cells := 0, slots := 0, locals := 0 }) s m args below meth c s.heap [] 0 0 Q (F0 m 4 ls []) := by
  intro n
  induction n with
  | zero => intro x1 x2 ls hl hf; exact absurd hf (by simp [l_X6_countWays_4, itr])
  | succ n ih => intro x1 x2 ls hl hf; exact b_X6_countWays_4 C G hR hP x1 x2 L (K4 := fun x1 x2 => l_X6_countWays_4 L n x1 x2) (fun x1 x2 ls hl hf => ih x1 x2 ls hl hf) ls hl hf
def f_X6_countWays  (L : Wl) : Option Int32 :=
  lett (1 : Int32) fun x1_1 =>
  lett (0 : Int32) fun x2_3 =>
  l_X6_countWays_4 L FU x1_1 x2_3
set_option maxHeartbeats 4000000 in
set_option maxRecDepth 100000 in
theorem c_X6_countWays (l : Launch) (dC : Nat → ClassId) (dI : Nat → Nat → Nat) (cs : Nat → ClassId) (a : Nat → Nat) (L : Wl)  (res : Int32) (hf : f_X6_countWays L = some res) : Met l yX6_countWays wsX6_countWays ({ frames := 0, cells := 0, slots := 0, locals := 0 }) (va_Pc [.ref (a 0)] (fun U => va_P (dC, dI) vwCl (wW cs a L) U.heap ∧ GE dC dI cs U)) (vp_Si (fun r => r = res)) 0 0 (fun _ => False) := by
  refine Met.ofW (cc := cX6_countWays) (maxL := 3) (ret := (some .int)) (by decide) rfl ?_
  intro p e s m args below meth c s₁ B hml hv
  obtain ⟨rfl, hP, G⟩ := hv
  have hts := atoms_spec (ws := wsX6_countWays) B.pre
  have hown : s.vm.findClass RX6 = some m.cls := findClass_of_methodNamed B.named
  have hlocks := B.notSynchronized
  have hx := B.exec
  have hb := B.bytes
  have hr := B.returns
  have C : CallFix p m c cX6_countWays 3 s _ wsX6_countWays RX6 := ⟨hx, hb, hml, hown, hts⟩
  obtain ⟨hK, hN⟩ := id G
  have hR : RPi p l e ({ frames := 0, cells := 0, slots := 0, locals := 0 }) s m ([.ref (a 0)] : List Value).toArray below meth c cX6_countWays (MQ below (vp_Si (fun r => r = res)) ([.ref (a 0)] : List Value).toArray s 0 0 (fun _ => False)) res := fun pc ls r dd h => W.iret hx hb hr (fun t ht hW => ⟨r, rfl, Option.some.inj h, ht⟩) (fun q hq => by cases hq) dd
  have hl := lv_entry ([.ref (a 0)]) (n := 3) (Nat.le_of_ble_eq_true rfl)
  rw [lg_entry_eq]
  generalize (lg_sl ([.ref (a 0)]) ++ List.replicate (3 - (lg_sl ([.ref (a 0)])).length) Slot.unset).toArray = ls at hl ⊢
  have hl : lv_has ls 3 [(0, .ref (a 0))] := hl
  unfold f_X6_countWays at hf
  refine lv_iconst (v := 1) hx hb dX6_countWays_0 (by decide) ?_
  refine lv_topi (fun x1_1 ex1_1 => ?_)
  replace hf := lett_s ex1_1 hf
  refine lv_istore_n (lv' := [(1, .int (x1_1)), (0, .ref (a 0))]) hx hb dX6_countWays_1 rfl hl (by decide) rfl (fun ls hl => ?_)
  refine lv_iconst (v := 0) hx hb dX6_countWays_2 (by decide) ?_
  refine lv_topi (fun x2_3 ex2_3 => ?_)
  replace hf := lett_s ex2_3 hf
  refine lv_istore_n (lv' := [(2, .int (x2_3)), (1, .int (x1_1)), (0, .ref (a 0))]) hx hb dX6_countWays_3 rfl hl (by decide) rfl (fun ls hl => ?_)
  exact w_X6_countWays_4 C G hR hP L FU x1_1 x2_3 _ (lv_sub hl [2, 1, 0] rfl) hf

theorem in_X6_leastShare_X6 : ∀ w ∈ wsX60, w ∈ wsX6_leastShare := by decide +kernel
def f_X6_leastShare_12 (x1 : Int32) (x2 : Int32) (L : Wl) (K12 : Int32 → Wl → Option (Int32 × Wl)) (K33 : Wl → Option (Int32 × Wl)) : Option (Int32 × Wl) :=
  if (L.1 2) ≤ x2 then (
    K33 L
  ) else (
    gi (x2) 3 <|
    lett ((L.1, va_up L.2 2 (upd (L.2 2) (x2).toNatClampNeg ((0 : Int32))))) fun L_26 =>
    lett (x2 + 1) fun x2_27 =>
    K12 x2_27 L_26
  )
set_option maxHeartbeats 4000000 in
set_option maxRecDepth 100000 in
theorem b_X6_leastShare_12 {p : Program} {l : Launch} {e : Env} {s : State} {m : MethodId} {args : Array Value} {below : List Frame} {meth : Method} {c : Code} {Q : State → Prop} {dC : Nat → ClassId} {dI : Nat → Nat → Nat} {cs : Nat → ClassId} {A : Nat → Prop} {a : Nat → Nat} {res : Int32 × Wl} (C : CallFix p m c cX6_leastShare 5 s args wsX6_leastShare RX6) (G : GE dC dI cs s) (hA : ∀ q : Nat, s.heap.size ≤ q → A q) (hR : RTi p l e ({ frames := 1, cells := 0, slots := 0, locals := 21 }) s m args below meth c cX6_leastShare Q (dC, dI) A (fun u : Wl => (wW cs a u)) res) (x1 : Int32) (x2 : Int32) (L : Wl) {K12 : Int32 → Wl → Option (Int32 × Wl)} {K33 : Wl → Option (Int32 × Wl)} (hK12 : ∀ (x2 : Int32) (L : Wl) (H : Heap) (locs : List Loc) (ls : Array Slot), lv_has ls 5 [(0, .ref (a 0)), (1, .int (x1)), (2, .int (x2))] → va_P (dC, dI) vwCl (wW cs a L) H → va_D A (wW cs a L) → va_S A s.heap H locs → K12 x2 L = some res → W p l e ({ frames := 1, cells := 0, slots := 0, locals := 21 }) s m args below meth c H locs 0 0 Q (F0 m 12 ls [])) (hK33 : ∀ (L : Wl) (H : Heap) (locs : List Loc) (ls : Array Slot), lv_has ls 5 [(0, .ref (a 0)), (1, .int (x1))] → va_P (dC, dI) vwCl (wW cs a L) H → va_D A (wW cs a L) → va_S A s.heap H locs → K33 L = some res → W p l e ({ frames := 1, cells := 0, slots := 0, locals := 21 }) s m args below meth c H locs 0 0 Q (F0 m 33 ls [])) (H : Heap) (locs : List Loc) (ls : Array Slot) (hl : lv_has ls 5 [(0, .ref (a 0)), (1, .int (x1)), (2, .int (x2))]) (hP : va_P (dC, dI) vwCl (wW cs a L) H) (hD : va_D A (wW cs a L)) (hS : va_S A s.heap H locs) (hf : f_X6_leastShare_12 x1 x2 L K12 K33 = some res) : W p l e ({ frames := 1, cells := 0, slots := 0, locals := 21 }) s m args below meth c H locs 0 0 Q (F0 m 12 ls []) := by
  obtain ⟨hx, hb, hml, hown, hts⟩ := id C
  obtain ⟨hK, hN⟩ := id G
  unfold f_X6_leastShare_12 at hf
  refine lv_iload_n hx hb dX6_leastShare_12 rfl (lv_at hl 2 rfl) ?_
  refine lv_aload_n hx hb dX6_leastShare_13 rfl (lv_at hl 0 rfl) ?_
  refine va_get (D := (dC, dI)) (ci := 6) (v := .int ((L.1 2))) (C := RX6) (T := TX6) (N := 7) hx hb hts in_X6_leastShare_X6 hown hK hP 0 rfl rfl 2 (by decide) (hts (.fieldLink RX6 46 "BackLoans$Will" "heirs" "I") (by decide +kernel)) (fun _ h9 => h9) rfl dX6_leastShare_14 ?_
  refine lv_icmp_ge (tgt := 33) hx hb dX6_leastShare_17 (by decide) (fun c1 => ?_) (fun c1 => ?_)
  · replace hf := it_t c1 hf
    exact hK33 L _ _ _ (lv_sub hl [0, 1] rfl) hP hD hS hf
  · replace hf := it_f c1 hf
    refine lv_aload_n hx hb dX6_leastShare_20 rfl (lv_at hl 0 rfl) ?_
    refine va_get (D := (dC, dI)) (ci := 6) (v := .ref (a 3)) (C := RX6) (T := TX6) (N := 7) hx hb hts in_X6_leastShare_X6 hown hK hP 0 rfl rfl 6 (by decide) (hts (.fieldLink RX6 18 "BackLoans$Will" "gets" "[I") (by decide +kernel)) (fun _ h9 => h9) rfl dX6_leastShare_21 ?_
    refine lv_iload_n hx hb dX6_leastShare_24 rfl (lv_at hl 2 rfl) ?_
    refine lv_iconst (v := 0) hx hb dX6_leastShare_25 (by decide) ?_
    obtain ⟨hi2, hf⟩ := gi_e hf
    refine va_iast hx hb hK hP hD hS 3 0 rfl rfl hi2 dX6_leastShare_26 (fun H locs hP hD hS => ?_)
    obtain ⟨L_26, hP, hD, hf⟩ := st_nm (ws := fun L_26 : Wl => (wW cs a L_26)) ((L.1, va_up L.2 2 (upd (L.2 2) (x2).toNatClampNeg ((0 : Int32))))) hP hD hf
    obtain ⟨x2_27, ex2_27⟩ : ∃ y : Int32, y = (x2 + 1) := ⟨_, rfl⟩
    replace hf := lett_s ex2_27 hf
    refine lv_iinc (v := x2_27) (lv' := [(2, .int (x2_27)), (0, .ref (a 0)), (1, .int (x1))]) hx hb dX6_leastShare_27 hl (k := 2) rfl (by rw [ex2_27]; rfl) (by decide) rfl (fun ls hl => ?_)
    refine lv_goto (tgt := 12) hx hb dX6_leastShare_30 (by decide) ?_
    exact hK12 x2_27 L_26 _ _ _ (lv_sub hl [1, 2, 0] rfl) hP hD hS hf
def l_X6_leastShare_12 (x1 : Int32) (K33 : Wl → Option (Int32 × Wl)) (n : Nat) (x2 : Int32) (L : Wl) : Option (Int32 × Wl) := itr (fun (k : Int32 × Wl → Option (Int32 × Wl)) (z : Int32 × Wl) => f_X6_leastShare_12 x1 z.1 z.2 (fun x2 L => k (x2, L)) K33) n (x2, L)
set_option maxHeartbeats 4000000 in
set_option maxRecDepth 100000 in
theorem w_X6_leastShare_12 {p : Program} {l : Launch} {e : Env} {s : State} {m : MethodId} {args : Array Value} {below : List Frame} {meth : Method} {c : Code} {Q : State → Prop} {dC : Nat → ClassId} {dI : Nat → Nat → Nat} {cs : Nat → ClassId} {A : Nat → Prop} {a : Nat → Nat} {res : Int32 × Wl} (C : CallFix p m c cX6_leastShare 5 s args wsX6_leastShare RX6) (G : GE dC dI cs s) (hA : ∀ q : Nat, s.heap.size ≤ q → A q) (hR : RTi p l e ({ frames := 1, cells := 0, slots := 0, locals := 21 }) s m args below meth c cX6_leastShare Q (dC, dI) A (fun u : Wl => (wW cs a u)) res) (x1 : Int32) {K33 : Wl → Option (Int32 × Wl)} (hK33 : ∀ (L : Wl) (H : Heap) (locs : List Loc) (ls : Array Slot), lv_has ls 5 [(0, .ref (a 0)), (1, .int (x1))] → va_P (dC, dI) vwCl (wW cs a L) H → va_D A (wW cs a L) → va_S A s.heap H locs → K33 L = some res → W p l e ({ frames := 1, cells := 0, slots := 0, locals := 21 }) s m args below meth c H locs 0 0 Q (F0 m 33 ls [])) : ∀ (n : Nat) (x2 : Int32) (L : Wl) (H : Heap) (locs : List Loc) (ls : Array Slot), lv_has ls 5 [(0, .ref (a 0)), (1, .int (x1)), (2, .int (x2))] → va_P (dC, dI) vwCl (wW cs a L) H → va_D A (wW cs a L) → va_S A s.heap H locs → l_X6_leastShare_12 x1 K33 n x2 L = some res → W p l e ({ frames := 1, cells := 0, slots := 0, locals := 21 }) s m args below meth c H locs 0 0 Q (F0 m 12 ls []) := by
  intro n
  induction n with
  | zero => intro x2 L H locs ls hl hP hD hS hf; exact absurd hf (by simp [l_X6_leastShare_12, itr])
  | succ n ih => intro x2 L H locs ls hl hP hD hS hf; exact b_X6_leastShare_12 C G hA hR x1 x2 L (K12 := fun x2 L => l_X6_leastShare_12 x1 K33 n x2 L) (fun x2 L H locs ls hl hP hD hS hf => ih x2 L H locs ls hl hP hD hS hf) hK33 H locs ls hl hP hD hS hf
def f_X6_leastShare_42 (x2 : Int32) (x3 : Int32) (L : Wl) (K42 : Int32 → Int32 → Wl → Option (Int32 × Wl)) (K79 : Wl → Option (Int32 × Wl)) : Option (Int32 × Wl) :=
  if x3 < 0 then (
    K79 L
  ) else (
    gz ((L.1 2)) <|
    gi ((x2 - x2 / (L.1 2) * (L.1 2))) 3 <|
    gi (x3) 8 <|
    gi ((x2 - x2 / (L.1 2) * (L.1 2))) 3 <|
    lett ((L.1, va_up L.2 2 (upd (L.2 2) ((x2 - x2 / (L.1 2) * (L.1 2))).toNatClampNeg ((((L.2 2) ((x2 - x2 / (L.1 2) * (L.1 2))).toNatClampNeg) + ((L.2 0) (x3).toNatClampNeg)))))) fun L_65 =>
    gz ((L_65.1 2)) <|
    lett (x2 / (L_65.1 2)) fun x2_72 =>
    lett (x3 + (-1)) fun x3_73 =>
    K42 x2_72 x3_73 L_65
  )
set_option maxHeartbeats 4000000 in
set_option maxRecDepth 100000 in
theorem b_X6_leastShare_42 {p : Program} {l : Launch} {e : Env} {s : State} {m : MethodId} {args : Array Value} {below : List Frame} {meth : Method} {c : Code} {Q : State → Prop} {dC : Nat → ClassId} {dI : Nat → Nat → Nat} {cs : Nat → ClassId} {A : Nat → Prop} {a : Nat → Nat} {res : Int32 × Wl} (C : CallFix p m c cX6_leastShare 5 s args wsX6_leastShare RX6) (G : GE dC dI cs s) (hA : ∀ q : Nat, s.heap.size ≤ q → A q) (hR : RTi p l e ({ frames := 1, cells := 0, slots := 0, locals := 21 }) s m args below meth c cX6_leastShare Q (dC, dI) A (fun u : Wl => (wW cs a u)) res) (x2 : Int32) (x3 : Int32) (L : Wl) {K42 : Int32 → Int32 → Wl → Option (Int32 × Wl)} {K79 : Wl → Option (Int32 × Wl)} (hK42 : ∀ (x2 : Int32) (x3 : Int32) (L : Wl) (H : Heap) (locs : List Loc) (ls : Array Slot), lv_has ls 5 [(0, .ref (a 0)), (2, .int (x2)), (3, .int (x3))] → va_P (dC, dI) vwCl (wW cs a L) H → va_D A (wW cs a L) → va_S A s.heap H locs → K42 x2 x3 L = some res → W p l e ({ frames := 1, cells := 0, slots := 0, locals := 21 }) s m args below meth c H locs 0 0 Q (F0 m 42 ls [])) (hK79 : ∀ (L : Wl) (H : Heap) (locs : List Loc) (ls : Array Slot), lv_has ls 5 [(0, .ref (a 0))] → va_P (dC, dI) vwCl (wW cs a L) H → va_D A (wW cs a L) → va_S A s.heap H locs → K79 L = some res → W p l e ({ frames := 1, cells := 0, slots := 0, locals := 21 }) s m args below meth c H locs 0 0 Q (F0 m 79 ls [])) (H : Heap) (locs : List Loc) (ls : Array Slot) (hl : lv_has ls 5 [(0, .ref (a 0)), (2, .int (x2)), (3, .int (x3))]) (hP : va_P (dC, dI) vwCl (wW cs a L) H) (hD : va_D A (wW cs a L)) (hS : va_S A s.heap H locs) (hf : f_X6_leastShare_42 x2 x3 L K42 K79 = some res) : W p l e ({ frames := 1, cells := 0, slots := 0, locals := 21 }) s m args below meth c H locs 0 0 Q (F0 m 42 ls []) := by
  obtain ⟨hx, hb, hml, hown, hts⟩ := id C
  obtain ⟨hK, hN⟩ := id G
  unfold f_X6_leastShare_42 at hf
  refine lv_iload_n hx hb dX6_leastShare_42 rfl (lv_at hl 2 rfl) ?_
  refine lv_if_lt (tgt := 79) hx hb dX6_leastShare_43 (by decide) (fun c1 => ?_) (fun c1 => ?_)
  · replace hf := it_t c1 hf
    exact hK79 L _ _ _ (lv_sub hl [0] rfl) hP hD hS hf
  · replace hf := it_f c1 hf
    refine lv_aload_n hx hb dX6_leastShare_46 rfl (lv_at hl 0 rfl) ?_
    refine va_get (D := (dC, dI)) (ci := 6) (v := .ref (a 3)) (C := RX6) (T := TX6) (N := 7) hx hb hts in_X6_leastShare_X6 hown hK hP 0 rfl rfl 6 (by decide) (hts (.fieldLink RX6 18 "BackLoans$Will" "gets" "[I") (by decide +kernel)) (fun _ h9 => h9) rfl dX6_leastShare_47 ?_
    refine lv_iload_n hx hb dX6_leastShare_50 rfl (lv_at hl 1 rfl) ?_
    refine lv_aload_n hx hb dX6_leastShare_51 rfl (lv_at hl 0 rfl) ?_
    refine va_get (D := (dC, dI)) (ci := 6) (v := .int ((L.1 2))) (C := RX6) (T := TX6) (N := 7) hx hb hts in_X6_leastShare_X6 hown hK hP 0 rfl rfl 2 (by decide) (hts (.fieldLink RX6 46 "BackLoans$Will" "heirs" "I") (by decide +kernel)) (fun _ h9 => h9) rfl dX6_leastShare_52 ?_
    obtain ⟨hz2, hf⟩ := gz_e hf
    refine lv_irem hx hb dX6_leastShare_55 hz2 ?_
    refine lv_dup2_11 hx hb dX6_leastShare_56 rfl rfl ?_
    obtain ⟨hi3, hf⟩ := gi_e hf
    refine va_iald hx hb hK hP 3 0 rfl rfl hi3 dX6_leastShare_57 ?_
    refine lv_aload_n hx hb dX6_leastShare_58 rfl (lv_at hl 0 rfl) ?_
    refine va_get (D := (dC, dI)) (ci := 6) (v := .ref (a 1)) (C := RX6) (T := TX6) (N := 7) hx hb hts in_X6_leastShare_X6 hown hK hP 0 rfl rfl 4 (by decide) (hts (.fieldLink RX6 9 "BackLoans$Will" "worth" "[I") (by decide +kernel)) (fun _ h9 => h9) rfl dX6_leastShare_59 ?_
    refine lv_iload_n hx hb dX6_leastShare_62 rfl (lv_at hl 2 rfl) ?_
    obtain ⟨hi4, hf⟩ := gi_e hf
    refine va_iald hx hb hK hP 1 0 rfl rfl hi4 dX6_leastShare_63 ?_
    refine lv_iadd hx hb dX6_leastShare_64 ?_
    obtain ⟨hi5, hf⟩ := gi_e hf
    refine va_iast hx hb hK hP hD hS 3 0 rfl rfl hi5 dX6_leastShare_65 (fun H locs hP hD hS => ?_)
    obtain ⟨L_65, hP, hD, hf⟩ := st_nm (ws := fun L_65 : Wl => (wW cs a L_65)) ((L.1, va_up L.2 2 (upd (L.2 2) ((x2 - x2 / (L.1 2) * (L.1 2))).toNatClampNeg ((((L.2 2) ((x2 - x2 / (L.1 2) * (L.1 2))).toNatClampNeg) + ((L.2 0) (x3).toNatClampNeg)))))) hP hD hf
    refine lv_iload_n hx hb dX6_leastShare_66 rfl (lv_at hl 1 rfl) ?_
    refine lv_aload_n hx hb dX6_leastShare_67 rfl (lv_at hl 0 rfl) ?_
    refine va_get (D := (dC, dI)) (ci := 6) (v := .int ((L_65.1 2))) (C := RX6) (T := TX6) (N := 7) hx hb hts in_X6_leastShare_X6 hown hK hP 0 rfl rfl 2 (by decide) (hts (.fieldLink RX6 46 "BackLoans$Will" "heirs" "I") (by decide +kernel)) (fun _ h9 => h9) rfl dX6_leastShare_68 ?_
    obtain ⟨hz6, hf⟩ := gz_e hf
    refine lv_idiv hx hb dX6_leastShare_71 hz6 ?_
    refine lv_topi (fun x2_72 ex2_72 => ?_)
    replace hf := lett_s ex2_72 hf
    refine lv_istore_n (lv' := [(2, .int (x2_72)), (0, .ref (a 0)), (3, .int (x3))]) hx hb dX6_leastShare_72 rfl hl (by decide) rfl (fun ls hl => ?_)
    obtain ⟨x3_73, ex3_73⟩ : ∃ y : Int32, y = (x3 + (-1)) := ⟨_, rfl⟩
    replace hf := lett_s ex3_73 hf
    refine lv_iinc (v := x3_73) (lv' := [(3, .int (x3_73)), (2, .int (x2_72)), (0, .ref (a 0))]) hx hb dX6_leastShare_73 hl (k := 2) rfl (by rw [ex3_73]; rfl) (by decide) rfl (fun ls hl => ?_)
    refine lv_goto (tgt := 42) hx hb dX6_leastShare_76 (by decide) ?_
    exact hK42 x2_72 x3_73 L_65 _ _ _ (lv_sub hl [2, 1, 0] rfl) hP hD hS hf
def l_X6_leastShare_42  (K79 : Wl → Option (Int32 × Wl)) (n : Nat) (x2 : Int32) (x3 : Int32) (L : Wl) : Option (Int32 × Wl) := itr (fun (k : Int32 × Int32 × Wl → Option (Int32 × Wl)) (z : Int32 × Int32 × Wl) => f_X6_leastShare_42 z.1 z.2.1 z.2.2 (fun x2 x3 L => k (x2, x3, L)) K79) n (x2, x3, L)
set_option maxHeartbeats 4000000 in
set_option maxRecDepth 100000 in
theorem w_X6_leastShare_42 {p : Program} {l : Launch} {e : Env} {s : State} {m : MethodId} {args : Array Value} {below : List Frame} {meth : Method} {c : Code} {Q : State → Prop} {dC : Nat → ClassId} {dI : Nat → Nat → Nat} {cs : Nat → ClassId} {A : Nat → Prop} {a : Nat → Nat} {res : Int32 × Wl} (C : CallFix p m c cX6_leastShare 5 s args wsX6_leastShare RX6) (G : GE dC dI cs s) (hA : ∀ q : Nat, s.heap.size ≤ q → A q) (hR : RTi p l e ({ frames := 1, cells := 0, slots := 0, locals := 21 }) s m args below meth c cX6_leastShare Q (dC, dI) A (fun u : Wl => (wW cs a u)) res)  {K79 : Wl → Option (Int32 × Wl)} (hK79 : ∀ (L : Wl) (H : Heap) (locs : List Loc) (ls : Array Slot), lv_has ls 5 [(0, .ref (a 0))] → va_P (dC, dI) vwCl (wW cs a L) H → va_D A (wW cs a L) → va_S A s.heap H locs → K79 L = some res → W p l e ({ frames := 1, cells := 0, slots := 0, locals := 21 }) s m args below meth c H locs 0 0 Q (F0 m 79 ls [])) : ∀ (n : Nat) (x2 : Int32) (x3 : Int32) (L : Wl) (H : Heap) (locs : List Loc) (ls : Array Slot), lv_has ls 5 [(0, .ref (a 0)), (2, .int (x2)), (3, .int (x3))] → va_P (dC, dI) vwCl (wW cs a L) H → va_D A (wW cs a L) → va_S A s.heap H locs → l_X6_leastShare_42 K79 n x2 x3 L = some res → W p l e ({ frames := 1, cells := 0, slots := 0, locals := 21 }) s m args below meth c H locs 0 0 Q (F0 m 42 ls []) := by
  intro n
  induction n with
  | zero => intro x2 x3 L H locs ls hl hP hD hS hf; exact absurd hf (by simp [l_X6_leastShare_42, itr])
  | succ n ih => intro x2 x3 L H locs ls hl hP hD hS hf; exact b_X6_leastShare_42 C G hA hR x2 x3 L (K42 := fun x2 x3 L => l_X6_leastShare_42 K79 n x2 x3 L) (fun x2 x3 L H locs ls hl hP hD hS hf => ih x2 x3 L H locs ls hl hP hD hS hf) hK79 H locs ls hl hP hD hS hf
def f_X6_leastShare_89 (x3 : Int32) (x4 : Int32) (L : Wl) (K89 : Int32 → Int32 → Option (Int32 × Wl)) : Option (Int32 × Wl) :=
  if (L.1 2) ≤ x4 then (
    some (x3, L)
  ) else (
    gi (x4) 3 <|
    lett (if ((L.2 2) (x4).toNatClampNeg) < x3 then ((L.2 2) (x4).toNatClampNeg) else x3) fun x3_109 =>
    lett (x4 + 1) fun x4_110 =>
    K89 x3_109 x4_110
  )
set_option maxHeartbeats 4000000 in
set_option maxRecDepth 100000 in
theorem b_X6_leastShare_89 {p : Program} {l : Launch} {e : Env} {s : State} {m : MethodId} {args : Array Value} {below : List Frame} {meth : Method} {c : Code} {Q : State → Prop} {dC : Nat → ClassId} {dI : Nat → Nat → Nat} {cs : Nat → ClassId} {A : Nat → Prop} {a : Nat → Nat} {res : Int32 × Wl} (C : CallFix p m c cX6_leastShare 5 s args wsX6_leastShare RX6) (G : GE dC dI cs s) (hA : ∀ q : Nat, s.heap.size ≤ q → A q) (hR : RTi p l e ({ frames := 1, cells := 0, slots := 0, locals := 21 }) s m args below meth c cX6_leastShare Q (dC, dI) A (fun u : Wl => (wW cs a u)) res) (x3 : Int32) (x4 : Int32) (L : Wl) {K89 : Int32 → Int32 → Option (Int32 × Wl)} (hK89 : ∀ (x3 : Int32) (x4 : Int32) (H : Heap) (locs : List Loc) (ls : Array Slot), lv_has ls 5 [(0, .ref (a 0)), (3, .int (x3)), (4, .int (x4))] → va_P (dC, dI) vwCl (wW cs a L) H → va_D A (wW cs a L) → va_S A s.heap H locs → K89 x3 x4 = some res → W p l e ({ frames := 1, cells := 0, slots := 0, locals := 21 }) s m args below meth c H locs 0 0 Q (F0 m 89 ls [])) (H : Heap) (locs : List Loc) (ls : Array Slot) (hl : lv_has ls 5 [(0, .ref (a 0)), (3, .int (x3)), (4, .int (x4))]) (hP : va_P (dC, dI) vwCl (wW cs a L) H) (hD : va_D A (wW cs a L)) (hS : va_S A s.heap H locs) (hf : f_X6_leastShare_89 x3 x4 L K89 = some res) : W p l e ({ frames := 1, cells := 0, slots := 0, locals := 21 }) s m args below meth c H locs 0 0 Q (F0 m 89 ls []) := by
  obtain ⟨hx, hb, hml, hown, hts⟩ := id C
  obtain ⟨hK, hN⟩ := id G
  unfold f_X6_leastShare_89 at hf
  refine lv_iload hx hb dX6_leastShare_89 (lv_at hl 2 rfl) ?_
  refine lv_aload_n hx hb dX6_leastShare_91 rfl (lv_at hl 0 rfl) ?_
  refine va_get (D := (dC, dI)) (ci := 6) (v := .int ((L.1 2))) (C := RX6) (T := TX6) (N := 7) hx hb hts in_X6_leastShare_X6 hown hK hP 0 rfl rfl 2 (by decide) (hts (.fieldLink RX6 46 "BackLoans$Will" "heirs" "I") (by decide +kernel)) (fun _ h9 => h9) rfl dX6_leastShare_92 ?_
  refine lv_icmp_ge (tgt := 116) hx hb dX6_leastShare_95 (by decide) (fun c1 => ?_) (fun c1 => ?_)
  · replace hf := it_t c1 hf
    refine lv_iload_n hx hb dX6_leastShare_116 rfl (lv_at hl 1 rfl) ?_
    exact hR _ _ _ _ _ _ dX6_leastShare_117 hf hP hD hS
  · replace hf := it_f c1 hf
    refine lv_iload_n hx hb dX6_leastShare_98 rfl (lv_at hl 1 rfl) ?_
    refine lv_aload_n hx hb dX6_leastShare_99 rfl (lv_at hl 0 rfl) ?_
    refine va_get (D := (dC, dI)) (ci := 6) (v := .ref (a 3)) (C := RX6) (T := TX6) (N := 7) hx hb hts in_X6_leastShare_X6 hown hK hP 0 rfl rfl 6 (by decide) (hts (.fieldLink RX6 18 "BackLoans$Will" "gets" "[I") (by decide +kernel)) (fun _ h9 => h9) rfl dX6_leastShare_100 ?_
    refine lv_iload hx hb dX6_leastShare_103 (lv_at hl 2 rfl) ?_
    obtain ⟨hi2, hf⟩ := gi_e hf
    refine va_iald hx hb hK hP 3 0 rfl rfl hi2 dX6_leastShare_105 ?_
    refine va_mmin hx hb (hml.trans hl.1.symm) hown (hts (.methodLink RX6 70 Lib.Math.min.name) (by decide +kernel)) (hts (.static Lib.Math.min.name) (by decide +kernel)) (hts (.initialized "java/lang/Math") (by decide +kernel)) (hts (.code Lib.Math.min.name Lib.Math.min.code 2 (some .int)) (by decide +kernel)) (Nat.le_of_ble_eq_true rfl) (Nat.le_of_ble_eq_true rfl) (Nat.le_of_ble_eq_true rfl) (Nat.le_of_ble_eq_true rfl) dX6_leastShare_106 ?_
    refine lv_topi (fun x3_109 ex3_109 => ?_)
    replace hf := lett_s ex3_109 hf
    refine lv_istore_n (lv' := [(3, .int (x3_109)), (0, .ref (a 0)), (4, .int (x4))]) hx hb dX6_leastShare_109 rfl hl (by decide) rfl (fun ls hl => ?_)
    obtain ⟨x4_110, ex4_110⟩ : ∃ y : Int32, y = (x4 + 1) := ⟨_, rfl⟩
    replace hf := lett_s ex4_110 hf
    refine lv_iinc (v := x4_110) (lv' := [(4, .int (x4_110)), (3, .int (x3_109)), (0, .ref (a 0))]) hx hb dX6_leastShare_110 hl (k := 2) rfl (by rw [ex4_110]; rfl) (by decide) rfl (fun ls hl => ?_)
    refine lv_goto (tgt := 89) hx hb dX6_leastShare_113 (by decide) ?_
    exact hK89 x3_109 x4_110 _ _ _ (lv_sub hl [2, 1, 0] rfl) hP hD hS hf
def l_X6_leastShare_89 (L : Wl)  (n : Nat) (x3 : Int32) (x4 : Int32) : Option (Int32 × Wl) := itr (fun (k : Int32 × Int32 → Option (Int32 × Wl)) (z : Int32 × Int32) => f_X6_leastShare_89 z.1 z.2 L (fun x3 x4 => k (x3, x4))) n (x3, x4)
set_option maxHeartbeats 4000000 in
set_option maxRecDepth 100000 in
theorem w_X6_leastShare_89 {p : Program} {l : Launch} {e : Env} {s : State} {m : MethodId} {args : Array Value} {below : List Frame} {meth : Method} {c : Code} {Q : State → Prop} {dC : Nat → ClassId} {dI : Nat → Nat → Nat} {cs : Nat → ClassId} {A : Nat → Prop} {a : Nat → Nat} {res : Int32 × Wl} (C : CallFix p m c cX6_leastShare 5 s args wsX6_leastShare RX6) (G : GE dC dI cs s) (hA : ∀ q : Nat, s.heap.size ≤ q → A q) (hR : RTi p l e ({ frames := 1, cells := 0, slots := 0, locals := 21 }) s m args below meth c cX6_leastShare Q (dC, dI) A (fun u : Wl => (wW cs a u)) res) (L : Wl)   : ∀ (n : Nat) (x3 : Int32) (x4 : Int32) (H : Heap) (locs : List Loc) (ls : Array Slot), lv_has ls 5 [(0, .ref (a 0)), (3, .int (x3)), (4, .int (x4))] → va_P (dC, dI) vwCl (wW cs a L) H → va_D A (wW cs a L) → va_S A s.heap H locs → l_X6_leastShare_89 L n x3 x4 = some res → W p l e ({ frames := 1, cells := 0, slots := 0, locals := 21 }) s m args below meth c H locs 0 0 Q (F0 m 89 ls []) := by
  intro n
  induction n with
  | zero => intro x3 x4 H locs ls hl hP hD hS hf; exact absurd hf (by simp [l_X6_leastShare_89, itr])
  | succ n ih => intro x3 x4 H locs ls hl hP hD hS hf; exact b_X6_leastShare_89 C G hA hR x3 x4 L (K89 := fun x3 x4 => l_X6_leastShare_89 L n x3 x4) (fun x3 x4 H locs ls hl hP hD hS hf => ih x3 x4 H locs ls hl hP hD hS hf) H locs ls hl hP hD hS hf
def f_X6_leastShare_79 (L : Wl)  : Option (Int32 × Wl) :=
  gi ((0 : Int32)) 3 <|
  lett ((L.2 2) ((0 : Int32)).toNatClampNeg) fun x3_85 =>
  lett (1 : Int32) fun x4_87 =>
  l_X6_leastShare_89 L FU x3_85 x4_87
set_option maxHeartbeats 4000000 in
set_option maxRecDepth 100000 in
theorem b_X6_leastShare_79 {p : Program} {l : Launch} {e : Env} {s : State} {m : MethodId} {args : Array Value} {below : List Frame} {meth : Method} {c : Code} {Q : State → Prop} {dC : Nat → ClassId} {dI : Nat → Nat → Nat} {cs : Nat → ClassId} {A : Nat → Prop} {a : Nat → Nat} {res : Int32 × Wl} (C : CallFix p m c cX6_leastShare 5 s args wsX6_leastShare RX6) (G : GE dC dI cs s) (hA : ∀ q : Nat, s.heap.size ≤ q → A q) (hR : RTi p l e ({ frames := 1, cells := 0, slots := 0, locals := 21 }) s m args below meth c cX6_leastShare Q (dC, dI) A (fun u : Wl => (wW cs a u)) res) (L : Wl)   (H : Heap) (locs : List Loc) (ls : Array Slot) (hl : lv_has ls 5 [(0, .ref (a 0))]) (hP : va_P (dC, dI) vwCl (wW cs a L) H) (hD : va_D A (wW cs a L)) (hS : va_S A s.heap H locs) (hf : f_X6_leastShare_79 L = some res) : W p l e ({ frames := 1, cells := 0, slots := 0, locals := 21 }) s m args below meth c H locs 0 0 Q (F0 m 79 ls []) := by
  obtain ⟨hx, hb, hml, hown, hts⟩ := id C
  obtain ⟨hK, hN⟩ := id G
  unfold f_X6_leastShare_79 at hf
  refine lv_aload_n hx hb dX6_leastShare_79 rfl (lv_at hl 0 rfl) ?_
  refine va_get (D := (dC, dI)) (ci := 6) (v := .ref (a 3)) (C := RX6) (T := TX6) (N := 7) hx hb hts in_X6_leastShare_X6 hown hK hP 0 rfl rfl 6 (by decide) (hts (.fieldLink RX6 18 "BackLoans$Will" "gets" "[I") (by decide +kernel)) (fun _ h9 => h9) rfl dX6_leastShare_80 ?_
  refine lv_iconst (v := 0) hx hb dX6_leastShare_83 (by decide) ?_
  obtain ⟨hi1, hf⟩ := gi_e hf
  refine va_iald hx hb hK hP 3 0 rfl rfl hi1 dX6_leastShare_84 ?_
  refine lv_topi (fun x3_85 ex3_85 => ?_)
  replace hf := lett_s ex3_85 hf
  refine lv_istore_n (lv' := [(3, .int (x3_85)), (0, .ref (a 0))]) hx hb dX6_leastShare_85 rfl hl (by decide) rfl (fun ls hl => ?_)
  refine lv_iconst (v := 1) hx hb dX6_leastShare_86 (by decide) ?_
  refine lv_topi (fun x4_87 ex4_87 => ?_)
  replace hf := lett_s ex4_87 hf
  refine lv_istore (lv' := [(4, .int (x4_87)), (3, .int (x3_85)), (0, .ref (a 0))]) hx hb dX6_leastShare_87 hl (by decide) rfl (fun ls hl => ?_)
  exact w_X6_leastShare_89 C G hA hR L FU x3_85 x4_87 _ _ _ (lv_sub hl [2, 1, 0] rfl) hP hD hS hf
def f_X6_leastShare_33 (x1 : Int32) (L : Wl)  : Option (Int32 × Wl) :=
  lett ((L.1 1) - (1 : Int32)) fun x3_41 =>
  l_X6_leastShare_42 (fun Lz => f_X6_leastShare_79 Lz) FU x1 x3_41 L
set_option maxHeartbeats 4000000 in
set_option maxRecDepth 100000 in
theorem b_X6_leastShare_33 {p : Program} {l : Launch} {e : Env} {s : State} {m : MethodId} {args : Array Value} {below : List Frame} {meth : Method} {c : Code} {Q : State → Prop} {dC : Nat → ClassId} {dI : Nat → Nat → Nat} {cs : Nat → ClassId} {A : Nat → Prop} {a : Nat → Nat} {res : Int32 × Wl} (C : CallFix p m c cX6_leastShare 5 s args wsX6_leastShare RX6) (G : GE dC dI cs s) (hA : ∀ q : Nat, s.heap.size ≤ q → A q) (hR : RTi p l e ({ frames := 1, cells := 0, slots := 0, locals := 21 }) s m args below meth c cX6_leastShare Q (dC, dI) A (fun u : Wl => (wW cs a u)) res) (x1 : Int32) (L : Wl)   (H : Heap) (locs : List Loc) (ls : Array Slot) (hl : lv_has ls 5 [(0, .ref (a 0)), (1, .int (x1))]) (hP : va_P (dC, dI) vwCl (wW cs a L) H) (hD : va_D A (wW cs a L)) (hS : va_S A s.heap H locs) (hf : f_X6_leastShare_33 x1 L = some res) : W p l e ({ frames := 1, cells := 0, slots := 0, locals := 21 }) s m args below meth c H locs 0 0 Q (F0 m 33 ls []) := by
  obtain ⟨hx, hb, hml, hown, hts⟩ := id C
  obtain ⟨hK, hN⟩ := id G
  unfold f_X6_leastShare_33 at hf
  refine lv_iload_n hx hb dX6_leastShare_33 rfl (lv_at hl 1 rfl) ?_
  refine lv_istore_n (lv' := [(2, .int (x1)), (0, .ref (a 0)), (1, .int (x1))]) hx hb dX6_leastShare_34 rfl hl (by decide) rfl (fun ls hl => ?_)
  refine lv_aload_n hx hb dX6_leastShare_35 rfl (lv_at hl 1 rfl) ?_
  refine va_get (D := (dC, dI)) (ci := 6) (v := .int ((L.1 1))) (C := RX6) (T := TX6) (N := 7) hx hb hts in_X6_leastShare_X6 hown hK hP 0 rfl rfl 1 (by decide) (hts (.fieldLink RX6 43 "BackLoans$Will" "parts" "I") (by decide +kernel)) (fun _ h9 => h9) rfl dX6_leastShare_36 ?_
  refine lv_iconst (v := 1) hx hb dX6_leastShare_39 (by decide) ?_
  refine lv_isub hx hb dX6_leastShare_40 ?_
  refine lv_topi (fun x3_41 ex3_41 => ?_)
  replace hf := lett_s ex3_41 hf
  refine lv_istore_n (lv' := [(3, .int (x3_41)), (2, .int (x1)), (0, .ref (a 0)), (1, .int (x1))]) hx hb dX6_leastShare_41 rfl hl (by decide) rfl (fun ls hl => ?_)
  exact w_X6_leastShare_42 C G hA hR (fun Lz H locs ls hl hP hD hS hf => b_X6_leastShare_79 C G hA hR Lz _ _ _ hl hP hD hS hf) FU x1 x3_41 L _ _ _ (lv_sub hl [2, 1, 0] rfl) hP hD hS hf
def f_X6_leastShare (x1 : Int32) (L : Wl) : Option (Int32 × Wl) :=
  if (1 : Int32) ≤ (L.1 2) then (
    lett (0 : Int32) fun x2_11 =>
    l_X6_leastShare_12 x1 (fun Lz => f_X6_leastShare_33 x1 Lz) FU x2_11 L
  ) else (
    some ((0 : Int32), L)
  )
set_option maxHeartbeats 4000000 in
set_option maxRecDepth 100000 in
theorem c_X6_leastShare (l : Launch) (dC : Nat → ClassId) (dI : Nat → Nat → Nat) (cs : Nat → ClassId) (a : Nat → Nat) (sz : Nat) (L : Wl) (x1 : Int32) (res : Int32 × Wl) (hf : f_X6_leastShare x1 L = some res) : Met l yX6_leastShare wsX6_leastShare ({ frames := 1, cells := 0, slots := 0, locals := 21 }) (va_Pc [.ref (a 0), .int (x1)] (fun U => U.heap.size = sz ∧ va_P (dC, dI) vwCl (wW cs a L) U.heap ∧ GE dC dI cs U ∧ va_D (fun _ => True) (wW cs a L))) (va_Qi (fun r (u : Wl) => r = res.1 ∧ u = res.2) (fun u t => va_P (dC, dI) vwCl ((fun u : Wl => (wW cs a u)) u) t.heap ∧ va_D (va_A (wW cs a L) sz) ((fun u : Wl => (wW cs a u)) u)) (va_A (wW cs a L) sz)) 0 0 (va_A (wW cs a L) sz) := by
  refine Met.ofW (cc := cX6_leastShare) (maxL := 5) (ret := (some .int)) (by decide) rfl ?_
  intro p e s m args below meth c s₁ B hml hv
  obtain ⟨rfl, hsz, hP, G, hD0⟩ := hv
  have hts := atoms_spec (ws := wsX6_leastShare) B.pre
  have hown : s.vm.findClass RX6 = some m.cls := findClass_of_methodNamed B.named
  have hlocks := B.notSynchronized
  have hx := B.exec
  have hb := B.bytes
  have hr := B.returns
  have C : CallFix p m c cX6_leastShare 5 s _ wsX6_leastShare RX6 := ⟨hx, hb, hml, hown, hts⟩
  obtain ⟨hK, hN⟩ := id G
  subst hsz
  have hD := hD0.self (sz := s.heap.size)
  generalize hAe : va_A (wW cs a L) s.heap.size = A at hD ⊢
  have hA : ∀ q : Nat, s.heap.size ≤ q → A q := fun q h => by rw [← hAe]; exact Or.inr h
  have hS : va_S A s.heap s.heap [] := va_S.rf
  have hR : RTi p l e ({ frames := 1, cells := 0, slots := 0, locals := 21 }) s m ([.ref (a 0), .int (x1)] : List Value).toArray below meth c cX6_leastShare (MQ below (va_Qi (fun r (u : Wl) => r = res.1 ∧ u = res.2) (fun u t => va_P (dC, dI) vwCl ((fun u : Wl => (wW cs a u)) u) t.heap ∧ va_D A ((fun u : Wl => (wW cs a u)) u)) A) ([.ref (a 0), .int (x1)] : List Value).toArray s 0 0 A) (dC, dI) A (fun u : Wl => (wW cs a u)) res := fun H locs pc ls r u dd h hP hD hS => W.iret hx hb hr (fun t ht hW => ⟨⟨r, u, rfl, by cases h; exact ⟨rfl, rfl⟩, by rw [ht]; exact hP, hD⟩, hS.F ht⟩) hS.2.2 dd
  have hl := lv_entry ([.ref (a 0), .int (x1)]) (n := 5) (Nat.le_of_ble_eq_true rfl)
  rw [lg_entry_eq]
  generalize (lg_sl ([.ref (a 0), .int (x1)]) ++ List.replicate (5 - (lg_sl ([.ref (a 0), .int (x1)])).length) Slot.unset).toArray = ls at hl ⊢
  have hl : lv_has ls 5 [(0, .ref (a 0)), (1, .int (x1))] := hl
  unfold f_X6_leastShare at hf
  refine lv_aload_n hx hb dX6_leastShare_0 rfl (lv_at hl 0 rfl) ?_
  refine va_get (D := (dC, dI)) (ci := 6) (v := .int ((L.1 2))) (C := RX6) (T := TX6) (N := 7) hx hb hts in_X6_leastShare_X6 hown hK hP 0 rfl rfl 2 (by decide) (hts (.fieldLink RX6 46 "BackLoans$Will" "heirs" "I") (by decide +kernel)) (fun _ h9 => h9) rfl dX6_leastShare_1 ?_
  refine lv_iconst (v := 1) hx hb dX6_leastShare_4 (by decide) ?_
  refine lv_icmp_ge (tgt := 10) hx hb dX6_leastShare_5 (by decide) (fun c1 => ?_) (fun c1 => ?_)
  · replace hf := it_t c1 hf
    refine lv_iconst (v := 0) hx hb dX6_leastShare_10 (by decide) ?_
    refine lv_topi (fun x2_11 ex2_11 => ?_)
    replace hf := lett_s ex2_11 hf
    refine lv_istore_n (lv' := [(2, .int (x2_11)), (0, .ref (a 0)), (1, .int (x1))]) hx hb dX6_leastShare_11 rfl hl (by decide) rfl (fun ls hl => ?_)
    exact w_X6_leastShare_12 C G hA hR x1 (fun Lz H locs ls hl hP hD hS hf => b_X6_leastShare_33 C G hA hR x1 Lz _ _ _ hl hP hD hS hf) FU x2_11 L _ _ _ (lv_sub hl [1, 2, 0] rfl) hP hD hS hf
  · replace hf := it_f c1 hf
    refine lv_iconst (v := 0) hx hb dX6_leastShare_8 (by decide) ?_
    exact hR _ _ _ _ _ _ dX6_leastShare_9 hf hP hD hS

theorem in_X6_listHeirs_X5 : ∀ w ∈ wsX50, w ∈ wsX6_listHeirs := by decide +kernel
theorem in_X6_listHeirs_X6 : ∀ w ∈ wsX60, w ∈ wsX6_listHeirs := by decide +kernel
def f_X6_listHeirs_51 (x2 : Int32) (x3 : Int32) (L : Wl) (T : Tw) (K7 : Int32 → Wl → Option Wl) : Option Wl :=
  lett (x3 + 1) fun x3_51 =>
  K7 x3_51 L
set_option maxHeartbeats 4000000 in
set_option maxRecDepth 100000 in
theorem b_X6_listHeirs_51 {p : Program} {l : Launch} {e : Env} {s : State} {m : MethodId} {args : Array Value} {below : List Frame} {meth : Method} {c : Code} {Q : State → Prop} {dC : Nat → ClassId} {dI : Nat → Nat → Nat} {cs : Nat → ClassId} {A : Nat → Prop} {a : Nat → Nat} {b : Nat → Nat} {res : Wl} (C : CallFix p m c cX6_listHeirs 4 s args wsX6_listHeirs RX6) (G : GE dC dI cs s) (hA : ∀ q : Nat, s.heap.size ≤ q → A q) {T : Tw} (hR : RTv p l e ({ frames := 1, cells := 0, slots := 0, locals := 21 }) s m args below meth c cX6_listHeirs Q (dC, dI) A (fun u : Wl => (wW cs a u ++ wT cs b T)) res) (x2 : Int32) (x3 : Int32) (L : Wl) (_ : Tw) {K7 : Int32 → Wl → Option Wl} (hK7 : ∀ (x3 : Int32) (L : Wl) (H : Heap) (locs : List Loc) (ls : Array Slot), lv_has ls 4 [(0, .ref (a 0)), (1, .ref (b 0)), (2, .int (x2)), (3, .int (x3))] → va_P (dC, dI) vwCl (wW cs a L ++ wT cs b T) H → va_D A (wW cs a L ++ wT cs b T) → va_S A s.heap H locs → K7 x3 L = some res → W p l e ({ frames := 1, cells := 0, slots := 0, locals := 21 }) s m args below meth c H locs 0 0 Q (F0 m 7 ls [])) (H : Heap) (locs : List Loc) (ls : Array Slot) (hl : lv_has ls 4 [(0, .ref (a 0)), (1, .ref (b 0)), (2, .int (x2)), (3, .int (x3))]) (hP : va_P (dC, dI) vwCl (wW cs a L ++ wT cs b T) H) (hD : va_D A (wW cs a L ++ wT cs b T)) (hS : va_S A s.heap H locs) (hf : f_X6_listHeirs_51 x2 x3 L T K7 = some res) : W p l e ({ frames := 1, cells := 0, slots := 0, locals := 21 }) s m args below meth c H locs 0 0 Q (F0 m 51 ls []) := by
  obtain ⟨hx, hb, hml, hown, hts⟩ := id C
  obtain ⟨hK, hN⟩ := id G
  unfold f_X6_listHeirs_51 at hf
  obtain ⟨x3_51, ex3_51⟩ : ∃ y : Int32, y = (x3 + 1) := ⟨_, rfl⟩
  replace hf := lett_s ex3_51 hf
  refine lv_iinc (v := x3_51) (lv' := [(3, .int (x3_51)), (0, .ref (a 0)), (1, .ref (b 0)), (2, .int (x2))]) hx hb dX6_listHeirs_51 hl (k := 3) rfl (by rw [ex3_51]; rfl) (by decide) rfl (fun ls hl => ?_)
  refine lv_goto (tgt := 7) hx hb dX6_listHeirs_54 (by decide) ?_
  exact hK7 x3_51 L _ _ _ (lv_sub hl [1, 2, 3, 0] rfl) hP hD hS hf
def f_X6_listHeirs_7 (x2 : Int32) (x3 : Int32) (L : Wl) (T : Tw) (K7 : Int32 → Wl → Option Wl) : Option Wl :=
  if (T.1 4) ≤ x3 then (
    some L
  ) else (
    if (3 : Int32) ≤ (L.1 2) then (
      some L
    ) else (
      bn (f_X7_hasBit x2 x3) fun r25 =>
      if r25 = 0 then (
        f_X6_listHeirs_51 x2 x3 L T K7
      ) else (
        gi ((L.1 2)) 3 <|
        lett ((L.1, va_up L.2 1 (upd (L.2 1) ((L.1 2)).toNatClampNeg (x3)))) fun L_40 =>
        lett ((upd L_40.1 2 (((L_40.1 2) + (1 : Int32))), L_40.2)) fun L_48 =>
        f_X6_listHeirs_51 x2 x3 L_48 T K7
      )
    )
  )
set_option maxHeartbeats 4000000 in
set_option maxRecDepth 100000 in
theorem b_X6_listHeirs_7 {p : Program} {l : Launch} {e : Env} {s : State} {m : MethodId} {args : Array Value} {below : List Frame} {meth : Method} {c : Code} {Q : State → Prop} {dC : Nat → ClassId} {dI : Nat → Nat → Nat} {cs : Nat → ClassId} {A : Nat → Prop} {a : Nat → Nat} {b : Nat → Nat} {res : Wl} (C : CallFix p m c cX6_listHeirs 4 s args wsX6_listHeirs RX6) (G : GE dC dI cs s) (hA : ∀ q : Nat, s.heap.size ≤ q → A q) {T : Tw} (hR : RTv p l e ({ frames := 1, cells := 0, slots := 0, locals := 21 }) s m args below meth c cX6_listHeirs Q (dC, dI) A (fun u : Wl => (wW cs a u ++ wT cs b T)) res) (x2 : Int32) (x3 : Int32) (L : Wl) (_ : Tw) {K7 : Int32 → Wl → Option Wl} (hK7 : ∀ (x3 : Int32) (L : Wl) (H : Heap) (locs : List Loc) (ls : Array Slot), lv_has ls 4 [(0, .ref (a 0)), (1, .ref (b 0)), (2, .int (x2)), (3, .int (x3))] → va_P (dC, dI) vwCl (wW cs a L ++ wT cs b T) H → va_D A (wW cs a L ++ wT cs b T) → va_S A s.heap H locs → K7 x3 L = some res → W p l e ({ frames := 1, cells := 0, slots := 0, locals := 21 }) s m args below meth c H locs 0 0 Q (F0 m 7 ls [])) (H : Heap) (locs : List Loc) (ls : Array Slot) (hl : lv_has ls 4 [(0, .ref (a 0)), (1, .ref (b 0)), (2, .int (x2)), (3, .int (x3))]) (hP : va_P (dC, dI) vwCl (wW cs a L ++ wT cs b T) H) (hD : va_D A (wW cs a L ++ wT cs b T)) (hS : va_S A s.heap H locs) (hf : f_X6_listHeirs_7 x2 x3 L T K7 = some res) : W p l e ({ frames := 1, cells := 0, slots := 0, locals := 21 }) s m args below meth c H locs 0 0 Q (F0 m 7 ls []) := by
  obtain ⟨hx, hb, hml, hown, hts⟩ := id C
  obtain ⟨hK, hN⟩ := id G
  unfold f_X6_listHeirs_7 at hf
  refine lv_iload_n hx hb dX6_listHeirs_7 rfl (lv_at hl 3 rfl) ?_
  refine lv_aload_n hx hb dX6_listHeirs_8 rfl (lv_at hl 1 rfl) ?_
  refine va_get (D := (dC, dI)) (ci := 5) (v := .int ((T.1 4))) (C := RX5) (T := TX5) (N := 17) hx hb hts in_X6_listHeirs_X5 hown hK hP 4 rfl rfl 4 (by decide) (hts (.fieldLink RX6 63 "BackLoans$Town" "people" "I") (by decide +kernel)) (fun _ h9 => h9) rfl dX6_listHeirs_9 ?_
  refine lv_icmp_ge (tgt := 57) hx hb dX6_listHeirs_12 (by decide) (fun c1 => ?_) (fun c1 => ?_)
  · replace hf := it_t c1 hf
    exact hR _ _ _ _ _ dX6_listHeirs_57 hf hP hD hS
  · replace hf := it_f c1 hf
    refine lv_aload_n hx hb dX6_listHeirs_15 rfl (lv_at hl 0 rfl) ?_
    refine va_get (D := (dC, dI)) (ci := 6) (v := .int ((L.1 2))) (C := RX6) (T := TX6) (N := 7) hx hb hts in_X6_listHeirs_X6 hown hK hP 0 rfl rfl 2 (by decide) (hts (.fieldLink RX6 46 "BackLoans$Will" "heirs" "I") (by decide +kernel)) (fun _ h9 => h9) rfl dX6_listHeirs_16 ?_
    refine lv_iconst (v := 3) hx hb dX6_listHeirs_19 (by decide) ?_
    refine lv_icmp_ge (tgt := 57) hx hb dX6_listHeirs_20 (by decide) (fun c2 => ?_) (fun c2 => ?_)
    · replace hf := it_t c2 hf
      exact hR _ _ _ _ _ dX6_listHeirs_57 hf hP hD hS
    · replace hf := it_f c2 hf
      refine lv_iload_n hx hb dX6_listHeirs_23 rfl (lv_at hl 2 rfl) ?_
      refine lv_iload_n hx hb dX6_listHeirs_24 rfl (lv_at hl 3 rfl) ?_
      obtain ⟨r25, hr25, hf⟩ := bn_e hf
      have hPc := hP.sub (ws' := ([] : va_W)) [] rfl
      refine vp_callSi (va_Run.run (va_runSN (As := [.int (x2), .int (x3)]) (rest := []) C (c_X7_hasBit l dC dI cs x2 x3 r25 hr25) ⟨va_cnB 2 hts gX6_listHeirs_X7_hasBit_n66 rfl rfl rfl (hN (RX6, 66, yX7_hasBit, RX7) (by decide +kernel)) (hts (.initialized RX7) (by decide +kernel)) (by decide +kernel) ⟨Nat.le_of_ble_eq_true rfl, Nat.le_of_ble_eq_true rfl⟩, (hts (.static yX7_hasBit) (by decide +kernel)), trivial⟩ ⟨(fun a U g mk q => ⟨q.1, q.2.1, GE.calling q.2.2⟩), (fun U hU hW => ⟨rfl, by rw [hU]; exact hPc, GE.warm hW G⟩)⟩ rfl rfl hl.1 rfl (lv_room (Nat.le_of_ble_eq_true rfl)) dX6_listHeirs_25 ⟨Nat.le_of_ble_eq_true rfl, Nat.le_of_ble_eq_true rfl⟩)) (fun qr25 hqr25 => ?_)
      obtain ⟨hqr25, hnr25⟩ := hqr25
      obtain rfl := hqr25.symm
      refine lv_if_eq (tgt := 51) hx hb dX6_listHeirs_28 (by decide) (fun c3 => ?_) (fun c3 => ?_)
      · replace hf := it_t c3 hf
        exact b_X6_listHeirs_51 C G hA hR x2 x3 L T hK7 _ _ _ (lv_sub hl [0, 1, 2, 3] rfl) hP hD hS hf
      · replace hf := it_f c3 hf
        refine lv_aload_n hx hb dX6_listHeirs_31 rfl (lv_at hl 0 rfl) ?_
        refine va_get (D := (dC, dI)) (ci := 6) (v := .ref (a 2)) (C := RX6) (T := TX6) (N := 7) hx hb hts in_X6_listHeirs_X6 hown hK hP 0 rfl rfl 5 (by decide) (hts (.fieldLink RX6 15 "BackLoans$Will" "heir" "[I") (by decide +kernel)) (fun _ h9 => h9) rfl dX6_listHeirs_32 ?_
        refine lv_aload_n hx hb dX6_listHeirs_35 rfl (lv_at hl 0 rfl) ?_
        refine va_get (D := (dC, dI)) (ci := 6) (v := .int ((L.1 2))) (C := RX6) (T := TX6) (N := 7) hx hb hts in_X6_listHeirs_X6 hown hK hP 0 rfl rfl 2 (by decide) (hts (.fieldLink RX6 46 "BackLoans$Will" "heirs" "I") (by decide +kernel)) (fun _ h9 => h9) rfl dX6_listHeirs_36 ?_
        refine lv_iload_n hx hb dX6_listHeirs_39 rfl (lv_at hl 3 rfl) ?_
        obtain ⟨hi4, hf⟩ := gi_e hf
        refine va_iast hx hb hK hP hD hS 2 0 rfl rfl hi4 dX6_listHeirs_40 (fun H locs hP hD hS => ?_)
        obtain ⟨L_40, hP, hD, hf⟩ := st_nm (ws := fun L_40 : Wl => (wW cs a L_40 ++ wT cs b T)) ((L.1, va_up L.2 1 (upd (L.2 1) ((L.1 2)).toNatClampNeg (x3)))) hP hD hf
        refine lv_aload_n hx hb dX6_listHeirs_41 rfl (lv_at hl 0 rfl) ?_
        refine lv_dup hx hb dX6_listHeirs_42 rfl ?_
        refine va_get (D := (dC, dI)) (ci := 6) (v := .int ((L_40.1 2))) (C := RX6) (T := TX6) (N := 7) hx hb hts in_X6_listHeirs_X6 hown hK hP 0 rfl rfl 2 (by decide) (hts (.fieldLink RX6 46 "BackLoans$Will" "heirs" "I") (by decide +kernel)) (fun _ h9 => h9) rfl dX6_listHeirs_43 ?_
        refine lv_iconst (v := 1) hx hb dX6_listHeirs_46 (by decide) ?_
        refine lv_iadd hx hb dX6_listHeirs_47 ?_
        refine va_put (D := (dC, dI)) (ci := 6) (v := .int (((L_40.1 2) + (1 : Int32)))) (ty := .int) (C := RX6) (T := TX6) (N := 7) hx hb hts in_X6_listHeirs_X6 tyX6 tyX6_ok nmX6 hown hK hP hD hS 0 rfl rfl 2 (by decide) (hts (.fieldLink RX6 46 "BackLoans$Will" "heirs" "I") (by decide +kernel)) (fun _ h9 => h9) rfl (by decide +kernel) rfl rfl (Nat.le_of_ble_eq_true rfl) dX6_listHeirs_48 (fun H locs hP hD hS => ?_)
        obtain ⟨L_48, hP, hD, hf⟩ := st_nm (ws := fun L_48 : Wl => (wW cs a L_48 ++ wT cs b T)) ((upd L_40.1 2 (((L_40.1 2) + (1 : Int32))), L_40.2)) hP hD hf
        exact b_X6_listHeirs_51 C G hA hR x2 x3 L_48 T hK7 _ _ _ (lv_sub hl [0, 1, 2, 3] rfl) hP hD hS hf
def l_X6_listHeirs_7 (x2 : Int32) (T : Tw)  (n : Nat) (x3 : Int32) (L : Wl) : Option Wl := itr (fun (k : Int32 × Wl → Option Wl) (z : Int32 × Wl) => f_X6_listHeirs_7 x2 z.1 z.2 T (fun x3 L => k (x3, L))) n (x3, L)
set_option maxHeartbeats 4000000 in
set_option maxRecDepth 100000 in
theorem w_X6_listHeirs_7 {p : Program} {l : Launch} {e : Env} {s : State} {m : MethodId} {args : Array Value} {below : List Frame} {meth : Method} {c : Code} {Q : State → Prop} {dC : Nat → ClassId} {dI : Nat → Nat → Nat} {cs : Nat → ClassId} {A : Nat → Prop} {a : Nat → Nat} {b : Nat → Nat} {res : Wl} (C : CallFix p m c cX6_listHeirs 4 s args wsX6_listHeirs RX6) (G : GE dC dI cs s) (hA : ∀ q : Nat, s.heap.size ≤ q → A q) {T : Tw} (hR : RTv p l e ({ frames := 1, cells := 0, slots := 0, locals := 21 }) s m args below meth c cX6_listHeirs Q (dC, dI) A (fun u : Wl => (wW cs a u ++ wT cs b T)) res) (x2 : Int32) (_ : Tw)   : ∀ (n : Nat) (x3 : Int32) (L : Wl) (H : Heap) (locs : List Loc) (ls : Array Slot), lv_has ls 4 [(0, .ref (a 0)), (1, .ref (b 0)), (2, .int (x2)), (3, .int (x3))] → va_P (dC, dI) vwCl (wW cs a L ++ wT cs b T) H → va_D A (wW cs a L ++ wT cs b T) → va_S A s.heap H locs → l_X6_listHeirs_7 x2 T n x3 L = some res → W p l e ({ frames := 1, cells := 0, slots := 0, locals := 21 }) s m args below meth c H locs 0 0 Q (F0 m 7 ls []) := by
  intro n
  induction n with
  | zero => intro x3 L H locs ls hl hP hD hS hf; exact absurd hf (by simp [l_X6_listHeirs_7, itr])
  | succ n ih => intro x3 L H locs ls hl hP hD hS hf; exact b_X6_listHeirs_7 C G hA hR x2 x3 L T (K7 := fun x3 L => l_X6_listHeirs_7 x2 T n x3 L) (fun x3 L H locs ls hl hP hD hS hf => ih x3 L H locs ls hl hP hD hS hf) H locs ls hl hP hD hS hf
def f_X6_listHeirs (x2 : Int32) (L : Wl) (T : Tw) : Option Wl :=
  lett ((upd L.1 2 ((0 : Int32)), L.2)) fun L_2 =>
  lett (0 : Int32) fun x3_6 =>
  l_X6_listHeirs_7 x2 T FU x3_6 L_2
set_option maxHeartbeats 4000000 in
set_option maxRecDepth 100000 in
theorem c_X6_listHeirs (l : Launch) (dC : Nat → ClassId) (dI : Nat → Nat → Nat) (cs : Nat → ClassId) (a : Nat → Nat) (b : Nat → Nat) (sz : Nat) (L : Wl) (T : Tw) (x2 : Int32) (res : Wl) (hf : f_X6_listHeirs x2 L T = some res) : Met l yX6_listHeirs wsX6_listHeirs ({ frames := 1, cells := 0, slots := 0, locals := 21 }) (va_Pc [.ref (a 0), .ref (b 0), .int (x2)] (fun U => U.heap.size = sz ∧ va_P (dC, dI) vwCl (wW cs a L ++ wT cs b T) U.heap ∧ GE dC dI cs U ∧ va_D (fun _ => True) (wW cs a L ++ wT cs b T))) (va_Qv (fun u : Wl => u = res) (fun u t => va_P (dC, dI) vwCl ((fun u : Wl => (wW cs a u ++ wT cs b T)) u) t.heap ∧ va_D (va_A (wW cs a L ++ wT cs b T) sz) ((fun u : Wl => (wW cs a u ++ wT cs b T)) u)) (va_A (wW cs a L ++ wT cs b T) sz)) 0 0 (va_A (wW cs a L ++ wT cs b T) sz) := by
  refine Met.ofW (cc := cX6_listHeirs) (maxL := 4) (ret := none) (by decide) rfl ?_
  intro p e s m args below meth c s₁ B hml hv
  obtain ⟨rfl, hsz, hP, G, hD0⟩ := hv
  have hts := atoms_spec (ws := wsX6_listHeirs) B.pre
  have hown : s.vm.findClass RX6 = some m.cls := findClass_of_methodNamed B.named
  have hlocks := B.notSynchronized
  have hx := B.exec
  have hb := B.bytes
  have hr := B.returns
  have C : CallFix p m c cX6_listHeirs 4 s _ wsX6_listHeirs RX6 := ⟨hx, hb, hml, hown, hts⟩
  obtain ⟨hK, hN⟩ := id G
  subst hsz
  have hD := hD0.self (sz := s.heap.size)
  generalize hAe : va_A (wW cs a L ++ wT cs b T) s.heap.size = A at hD ⊢
  have hA : ∀ q : Nat, s.heap.size ≤ q → A q := fun q h => by rw [← hAe]; exact Or.inr h
  have hS : va_S A s.heap s.heap [] := va_S.rf
  have hR : RTv p l e ({ frames := 1, cells := 0, slots := 0, locals := 21 }) s m ([.ref (a 0), .ref (b 0), .int (x2)] : List Value).toArray below meth c cX6_listHeirs (MQ below (va_Qv (fun u : Wl => u = res) (fun u t => va_P (dC, dI) vwCl ((fun u : Wl => (wW cs a u ++ wT cs b T)) u) t.heap ∧ va_D A ((fun u : Wl => (wW cs a u ++ wT cs b T)) u)) A) ([.ref (a 0), .ref (b 0), .int (x2)] : List Value).toArray s 0 0 A) (dC, dI) A (fun u : Wl => (wW cs a u ++ wT cs b T)) res := fun H locs pc ls u dd h hP hD hS => W.vret hx hb hr (fun t ht hW => ⟨⟨u, rfl, by cases h; rfl, by rw [ht]; exact hP, hD⟩, hS.F ht⟩) hS.2.2 dd
  have hl := lv_entry ([.ref (a 0), .ref (b 0), .int (x2)]) (n := 4) (Nat.le_of_ble_eq_true rfl)
  rw [lg_entry_eq]
  generalize (lg_sl ([.ref (a 0), .ref (b 0), .int (x2)]) ++ List.replicate (4 - (lg_sl ([.ref (a 0), .ref (b 0), .int (x2)])).length) Slot.unset).toArray = ls at hl ⊢
  have hl : lv_has ls 4 [(0, .ref (a 0)), (1, .ref (b 0)), (2, .int (x2))] := hl
  unfold f_X6_listHeirs at hf
  refine lv_aload_n hx hb dX6_listHeirs_0 rfl (lv_at hl 0 rfl) ?_
  refine lv_iconst (v := 0) hx hb dX6_listHeirs_1 (by decide) ?_
  refine va_put (D := (dC, dI)) (ci := 6) (v := .int ((0 : Int32))) (ty := .int) (C := RX6) (T := TX6) (N := 7) hx hb hts in_X6_listHeirs_X6 tyX6 tyX6_ok nmX6 hown hK hP hD hS 0 rfl rfl 2 (by decide) (hts (.fieldLink RX6 46 "BackLoans$Will" "heirs" "I") (by decide +kernel)) (fun _ h9 => h9) rfl (by decide +kernel) rfl rfl (Nat.le_of_ble_eq_true rfl) dX6_listHeirs_2 (fun H locs hP hD hS => ?_)
  obtain ⟨L_2, hP, hD, hf⟩ := st_nm (ws := fun L_2 : Wl => (wW cs a L_2 ++ wT cs b T)) ((upd L.1 2 ((0 : Int32)), L.2)) hP hD hf
  refine lv_iconst (v := 0) hx hb dX6_listHeirs_5 (by decide) ?_
  refine lv_topi (fun x3_6 ex3_6 => ?_)
  replace hf := lett_s ex3_6 hf
  refine lv_istore_n (lv' := [(3, .int (x3_6)), (0, .ref (a 0)), (1, .ref (b 0)), (2, .int (x2))]) hx hb dX6_listHeirs_6 rfl hl (by decide) rfl (fun ls hl => ?_)
  exact w_X6_listHeirs_7 C G hA hR x2 T FU x3_6 L_2 _ _ _ (lv_sub hl [1, 2, 3, 0] rfl) hP hD hS hf

theorem in_X6_listParts_X5 : ∀ w ∈ wsX50, w ∈ wsX6_listParts := by decide +kernel
theorem in_X6_listParts_X6 : ∀ w ∈ wsX60, w ∈ wsX6_listParts := by decide +kernel
def f_X6_listParts_90 (x2 : Int32) (x3 : Int32) (L : Wl) (T : Tw) (K7 : Int32 → Wl → Option Wl) : Option Wl :=
  lett (x3 + 1) fun x3_90 =>
  K7 x3_90 L
set_option maxHeartbeats 4000000 in
set_option maxRecDepth 100000 in
theorem b_X6_listParts_90 {p : Program} {l : Launch} {e : Env} {s : State} {m : MethodId} {args : Array Value} {below : List Frame} {meth : Method} {c : Code} {Q : State → Prop} {dC : Nat → ClassId} {dI : Nat → Nat → Nat} {cs : Nat → ClassId} {A : Nat → Prop} {a : Nat → Nat} {b : Nat → Nat} {res : Wl} (C : CallFix p m c cX6_listParts 5 s args wsX6_listParts RX6) (G : GE dC dI cs s) (hA : ∀ q : Nat, s.heap.size ≤ q → A q) {T : Tw} (hR : RTv p l e ({ frames := 1, cells := 0, slots := 0, locals := 21 }) s m args below meth c cX6_listParts Q (dC, dI) A (fun u : Wl => (wW cs a u ++ wT cs b T)) res) (x2 : Int32) (x3 : Int32) (L : Wl) (_ : Tw) {K7 : Int32 → Wl → Option Wl} (hK7 : ∀ (x3 : Int32) (L : Wl) (H : Heap) (locs : List Loc) (ls : Array Slot), lv_has ls 5 [(0, .ref (a 0)), (1, .ref (b 0)), (2, .int (x2)), (3, .int (x3))] → va_P (dC, dI) vwCl (wW cs a L ++ wT cs b T) H → va_D A (wW cs a L ++ wT cs b T) → va_S A s.heap H locs → K7 x3 L = some res → W p l e ({ frames := 1, cells := 0, slots := 0, locals := 21 }) s m args below meth c H locs 0 0 Q (F0 m 7 ls [])) (H : Heap) (locs : List Loc) (ls : Array Slot) (hl : lv_has ls 5 [(0, .ref (a 0)), (1, .ref (b 0)), (2, .int (x2)), (3, .int (x3))]) (hP : va_P (dC, dI) vwCl (wW cs a L ++ wT cs b T) H) (hD : va_D A (wW cs a L ++ wT cs b T)) (hS : va_S A s.heap H locs) (hf : f_X6_listParts_90 x2 x3 L T K7 = some res) : W p l e ({ frames := 1, cells := 0, slots := 0, locals := 21 }) s m args below meth c H locs 0 0 Q (F0 m 90 ls []) := by
  obtain ⟨hx, hb, hml, hown, hts⟩ := id C
  obtain ⟨hK, hN⟩ := id G
  unfold f_X6_listParts_90 at hf
  obtain ⟨x3_90, ex3_90⟩ : ∃ y : Int32, y = (x3 + 1) := ⟨_, rfl⟩
  replace hf := lett_s ex3_90 hf
  refine lv_iinc (v := x3_90) (lv' := [(3, .int (x3_90)), (0, .ref (a 0)), (1, .ref (b 0)), (2, .int (x2))]) hx hb dX6_listParts_90 hl (k := 3) rfl (by rw [ex3_90]; rfl) (by decide) rfl (fun ls hl => ?_)
  refine lv_goto (tgt := 7) hx hb dX6_listParts_93 (by decide) ?_
  exact hK7 x3_90 L _ _ _ (lv_sub hl [1, 2, 3, 0] rfl) hP hD hS hf
def f_X6_listParts_49 (x2 : Int32) (x3 : Int32) (s0 : Int32) (L : Wl) (T : Tw) (K7 : Int32 → Wl → Option Wl) : Option Wl :=
  if s0 = 0 then (
    f_X6_listParts_90 x2 x3 L T K7
  ) else (
    gi (x3) 8 <|
    if ((T.2 3) (x3).toNatClampNeg) = x2 then (
      bn (f_X5_givenPence x3 T) fun r76 =>
      gi ((L.1 1)) 8 <|
      lett ((L.1, va_up L.2 0 (upd (L.2 0) ((L.1 1)).toNatClampNeg (r76)))) fun L_79 =>
      lett ((upd L_79.1 1 (((L_79.1 1) + (1 : Int32))), L_79.2)) fun L_87 =>
      f_X6_listParts_90 x2 x3 L_87 T K7
    ) else (
      f_X6_listParts_90 x2 x3 L T K7
    )
  )
set_option maxHeartbeats 4000000 in
set_option maxRecDepth 100000 in
theorem b_X6_listParts_49 {p : Program} {l : Launch} {e : Env} {s : State} {m : MethodId} {args : Array Value} {below : List Frame} {meth : Method} {c : Code} {Q : State → Prop} {dC : Nat → ClassId} {dI : Nat → Nat → Nat} {cs : Nat → ClassId} {A : Nat → Prop} {a : Nat → Nat} {b : Nat → Nat} {res : Wl} (C : CallFix p m c cX6_listParts 5 s args wsX6_listParts RX6) (G : GE dC dI cs s) (hA : ∀ q : Nat, s.heap.size ≤ q → A q) {T : Tw} (hR : RTv p l e ({ frames := 1, cells := 0, slots := 0, locals := 21 }) s m args below meth c cX6_listParts Q (dC, dI) A (fun u : Wl => (wW cs a u ++ wT cs b T)) res) (x2 : Int32) (x3 : Int32) (s0 : Int32) (L : Wl) (_ : Tw) {K7 : Int32 → Wl → Option Wl} (hK7 : ∀ (x3 : Int32) (L : Wl) (H : Heap) (locs : List Loc) (ls : Array Slot), lv_has ls 5 [(0, .ref (a 0)), (1, .ref (b 0)), (2, .int (x2)), (3, .int (x3))] → va_P (dC, dI) vwCl (wW cs a L ++ wT cs b T) H → va_D A (wW cs a L ++ wT cs b T) → va_S A s.heap H locs → K7 x3 L = some res → W p l e ({ frames := 1, cells := 0, slots := 0, locals := 21 }) s m args below meth c H locs 0 0 Q (F0 m 7 ls [])) (H : Heap) (locs : List Loc) (ls : Array Slot) (hl : lv_has ls 5 [(0, .ref (a 0)), (1, .ref (b 0)), (2, .int (x2)), (3, .int (x3))]) (hP : va_P (dC, dI) vwCl (wW cs a L ++ wT cs b T) H) (hD : va_D A (wW cs a L ++ wT cs b T)) (hS : va_S A s.heap H locs) (hf : f_X6_listParts_49 x2 x3 s0 L T K7 = some res) : W p l e ({ frames := 1, cells := 0, slots := 0, locals := 21 }) s m args below meth c H locs 0 0 Q (F0 m 49 ls [.int (s0)]) := by
  obtain ⟨hx, hb, hml, hown, hts⟩ := id C
  obtain ⟨hK, hN⟩ := id G
  unfold f_X6_listParts_49 at hf
  refine lv_istore (lv' := [(4, .int (s0)), (0, .ref (a 0)), (1, .ref (b 0)), (2, .int (x2)), (3, .int (x3))]) hx hb dX6_listParts_49 hl (by decide) rfl (fun ls hl => ?_)
  refine lv_iload hx hb dX6_listParts_51 (lv_at hl 0 rfl) ?_
  refine lv_if_eq (tgt := 90) hx hb dX6_listParts_53 (by decide) (fun c1 => ?_) (fun c1 => ?_)
  · replace hf := it_t c1 hf
    exact b_X6_listParts_90 C G hA hR x2 x3 L T hK7 _ _ _ (lv_sub hl [1, 2, 3, 4] rfl) hP hD hS hf
  · replace hf := it_f c1 hf
    refine lv_aload_n hx hb dX6_listParts_56 rfl (lv_at hl 2 rfl) ?_
    refine va_get (D := (dC, dI)) (ci := 5) (v := .ref (b 4)) (C := RX5) (T := TX5) (N := 17) hx hb hts in_X6_listParts_X5 hown hK hP 4 rfl rfl 10 (by decide) (hts (.fieldLink RX6 57 "BackLoans$Town" "owner" "[I") (by decide +kernel)) (fun _ h9 => h9) rfl dX6_listParts_57 ?_
    refine lv_iload_n hx hb dX6_listParts_60 rfl (lv_at hl 4 rfl) ?_
    obtain ⟨hi2, hf⟩ := gi_e hf
    refine va_iald hx hb hK hP 8 0 rfl rfl hi2 dX6_listParts_61 ?_
    refine lv_iload_n hx hb dX6_listParts_62 rfl (lv_at hl 3 rfl) ?_
    refine lv_icmp_ne (tgt := 90) hx hb dX6_listParts_63 (by decide) (fun c3 => ?_) (fun c3 => ?_)
    · replace hf := it_f c3 hf
      exact b_X6_listParts_90 C G hA hR x2 x3 L T hK7 _ _ _ (lv_sub hl [1, 2, 3, 4] rfl) hP hD hS hf
    · replace hf := it_t c3 hf
      refine lv_aload_n hx hb dX6_listParts_66 rfl (lv_at hl 1 rfl) ?_
      refine va_get (D := (dC, dI)) (ci := 6) (v := .ref (a 1)) (C := RX6) (T := TX6) (N := 7) hx hb hts in_X6_listParts_X6 hown hK hP 0 rfl rfl 4 (by decide) (hts (.fieldLink RX6 9 "BackLoans$Will" "worth" "[I") (by decide +kernel)) (fun _ h9 => h9) rfl dX6_listParts_67 ?_
      refine lv_aload_n hx hb dX6_listParts_70 rfl (lv_at hl 1 rfl) ?_
      refine va_get (D := (dC, dI)) (ci := 6) (v := .int ((L.1 1))) (C := RX6) (T := TX6) (N := 7) hx hb hts in_X6_listParts_X6 hown hK hP 0 rfl rfl 1 (by decide) (hts (.fieldLink RX6 43 "BackLoans$Will" "parts" "I") (by decide +kernel)) (fun _ h9 => h9) rfl dX6_listParts_71 ?_
      refine lv_aload_n hx hb dX6_listParts_74 rfl (lv_at hl 2 rfl) ?_
      refine lv_iload_n hx hb dX6_listParts_75 rfl (lv_at hl 4 rfl) ?_
      obtain ⟨r76, hr76, hf⟩ := bn_e hf
      have hPc := hP.sub (ws' := (wT cs b T)) [4, 5, 6, 7, 8, 9, 10, 11, 12, 13, 14] rfl
      refine vp_callSi (W.runV (As := [.int (x3)]) (rest := [.int ((L.1 1)), .ref (a 1)]) C (c_X5_givenPence l dC dI cs b T x3 r76 hr76) (cwV 1 hts gX6_listParts_X5_givenPence rfl rfl rfl (by decide +kernel) ⟨Nat.le_of_ble_eq_true rfl, Nat.le_of_ble_eq_true rfl⟩) ⟨(fun a U g mk q => ⟨q.1, q.2.1, GE.calling q.2.2⟩), va_recv hK hPc (ci := 5) (q0 := 0) rfl rfl, (fun U hU hW => ⟨rfl, by rw [hU]; exact hPc, GE.warm hW G⟩)⟩ rfl rfl hl.1 rfl (lv_room (Nat.le_of_ble_eq_true rfl)) dX6_listParts_76 ⟨Nat.le_of_ble_eq_true rfl, Nat.le_of_ble_eq_true rfl⟩) (fun qr76 hqr76 => ?_)
      obtain rfl := hqr76.symm
      obtain ⟨hi4, hf⟩ := gi_e hf
      refine va_iast hx hb hK hP hD hS 1 0 rfl rfl hi4 dX6_listParts_79 (fun H locs hP hD hS => ?_)
      obtain ⟨L_79, hP, hD, hf⟩ := st_nm (ws := fun L_79 : Wl => (wW cs a L_79 ++ wT cs b T)) ((L.1, va_up L.2 0 (upd (L.2 0) ((L.1 1)).toNatClampNeg (r76)))) hP hD hf
      refine lv_aload_n hx hb dX6_listParts_80 rfl (lv_at hl 1 rfl) ?_
      refine lv_dup hx hb dX6_listParts_81 rfl ?_
      refine va_get (D := (dC, dI)) (ci := 6) (v := .int ((L_79.1 1))) (C := RX6) (T := TX6) (N := 7) hx hb hts in_X6_listParts_X6 hown hK hP 0 rfl rfl 1 (by decide) (hts (.fieldLink RX6 43 "BackLoans$Will" "parts" "I") (by decide +kernel)) (fun _ h9 => h9) rfl dX6_listParts_82 ?_
      refine lv_iconst (v := 1) hx hb dX6_listParts_85 (by decide) ?_
      refine lv_iadd hx hb dX6_listParts_86 ?_
      refine va_put (D := (dC, dI)) (ci := 6) (v := .int (((L_79.1 1) + (1 : Int32)))) (ty := .int) (C := RX6) (T := TX6) (N := 7) hx hb hts in_X6_listParts_X6 tyX6 tyX6_ok nmX6 hown hK hP hD hS 0 rfl rfl 1 (by decide) (hts (.fieldLink RX6 43 "BackLoans$Will" "parts" "I") (by decide +kernel)) (fun _ h9 => h9) rfl (by decide +kernel) rfl rfl (Nat.le_of_ble_eq_true rfl) dX6_listParts_87 (fun H locs hP hD hS => ?_)
      obtain ⟨L_87, hP, hD, hf⟩ := st_nm (ws := fun L_87 : Wl => (wW cs a L_87 ++ wT cs b T)) ((upd L_79.1 1 (((L_79.1 1) + (1 : Int32))), L_79.2)) hP hD hf
      exact b_X6_listParts_90 C G hA hR x2 x3 L_87 T hK7 _ _ _ (lv_sub hl [1, 2, 3, 4] rfl) hP hD hS hf
def f_X6_listParts_44 (x2 : Int32) (x3 : Int32) (L : Wl) (T : Tw) (K7 : Int32 → Wl → Option Wl) : Option Wl :=
  f_X6_listParts_49 x2 x3 (1 : Int32) L T K7
set_option maxHeartbeats 4000000 in
set_option maxRecDepth 100000 in
theorem b_X6_listParts_44 {p : Program} {l : Launch} {e : Env} {s : State} {m : MethodId} {args : Array Value} {below : List Frame} {meth : Method} {c : Code} {Q : State → Prop} {dC : Nat → ClassId} {dI : Nat → Nat → Nat} {cs : Nat → ClassId} {A : Nat → Prop} {a : Nat → Nat} {b : Nat → Nat} {res : Wl} (C : CallFix p m c cX6_listParts 5 s args wsX6_listParts RX6) (G : GE dC dI cs s) (hA : ∀ q : Nat, s.heap.size ≤ q → A q) {T : Tw} (hR : RTv p l e ({ frames := 1, cells := 0, slots := 0, locals := 21 }) s m args below meth c cX6_listParts Q (dC, dI) A (fun u : Wl => (wW cs a u ++ wT cs b T)) res) (x2 : Int32) (x3 : Int32) (L : Wl) (_ : Tw) {K7 : Int32 → Wl → Option Wl} (hK7 : ∀ (x3 : Int32) (L : Wl) (H : Heap) (locs : List Loc) (ls : Array Slot), lv_has ls 5 [(0, .ref (a 0)), (1, .ref (b 0)), (2, .int (x2)), (3, .int (x3))] → va_P (dC, dI) vwCl (wW cs a L ++ wT cs b T) H → va_D A (wW cs a L ++ wT cs b T) → va_S A s.heap H locs → K7 x3 L = some res → W p l e ({ frames := 1, cells := 0, slots := 0, locals := 21 }) s m args below meth c H locs 0 0 Q (F0 m 7 ls [])) (H : Heap) (locs : List Loc) (ls : Array Slot) (hl : lv_has ls 5 [(0, .ref (a 0)), (1, .ref (b 0)), (2, .int (x2)), (3, .int (x3))]) (hP : va_P (dC, dI) vwCl (wW cs a L ++ wT cs b T) H) (hD : va_D A (wW cs a L ++ wT cs b T)) (hS : va_S A s.heap H locs) (hf : f_X6_listParts_44 x2 x3 L T K7 = some res) : W p l e ({ frames := 1, cells := 0, slots := 0, locals := 21 }) s m args below meth c H locs 0 0 Q (F0 m 44 ls []) := by
  obtain ⟨hx, hb, hml, hown, hts⟩ := id C
  obtain ⟨hK, hN⟩ := id G
  unfold f_X6_listParts_44 at hf
  refine lv_iconst (v := 1) hx hb dX6_listParts_44 (by decide) ?_
  refine lv_goto (tgt := 49) hx hb dX6_listParts_45 (by decide) ?_
  exact b_X6_listParts_49 C G hA hR x2 x3 (1 : Int32) L T hK7 _ _ _ (lv_sub hl [0, 1, 2, 3] rfl) hP hD hS hf
def f_X6_listParts_7 (x2 : Int32) (x3 : Int32) (L : Wl) (T : Tw) (K7 : Int32 → Wl → Option Wl) : Option Wl :=
  if (T.1 5) ≤ x3 then (
    some L
  ) else (
    gi (x3) 8 <|
    if ((T.2 6) (x3).toNatClampNeg) = 0 then (
      f_X6_listParts_44 x2 x3 L T K7
    ) else (
      gi (x3) 8 <|
      if ((T.2 6) (x3).toNatClampNeg) = (2 : Int32) then (
        f_X6_listParts_44 x2 x3 L T K7
      ) else (
        gi (x3) 8 <|
        if ((T.2 6) (x3).toNatClampNeg) = (3 : Int32) then (
          f_X6_listParts_44 x2 x3 L T K7
        ) else (
          f_X6_listParts_49 x2 x3 (0 : Int32) L T K7
        )
      )
    )
  )
set_option maxHeartbeats 4000000 in
set_option maxRecDepth 100000 in
theorem b_X6_listParts_7 {p : Program} {l : Launch} {e : Env} {s : State} {m : MethodId} {args : Array Value} {below : List Frame} {meth : Method} {c : Code} {Q : State → Prop} {dC : Nat → ClassId} {dI : Nat → Nat → Nat} {cs : Nat → ClassId} {A : Nat → Prop} {a : Nat → Nat} {b : Nat → Nat} {res : Wl} (C : CallFix p m c cX6_listParts 5 s args wsX6_listParts RX6) (G : GE dC dI cs s) (hA : ∀ q : Nat, s.heap.size ≤ q → A q) {T : Tw} (hR : RTv p l e ({ frames := 1, cells := 0, slots := 0, locals := 21 }) s m args below meth c cX6_listParts Q (dC, dI) A (fun u : Wl => (wW cs a u ++ wT cs b T)) res) (x2 : Int32) (x3 : Int32) (L : Wl) (_ : Tw) {K7 : Int32 → Wl → Option Wl} (hK7 : ∀ (x3 : Int32) (L : Wl) (H : Heap) (locs : List Loc) (ls : Array Slot), lv_has ls 5 [(0, .ref (a 0)), (1, .ref (b 0)), (2, .int (x2)), (3, .int (x3))] → va_P (dC, dI) vwCl (wW cs a L ++ wT cs b T) H → va_D A (wW cs a L ++ wT cs b T) → va_S A s.heap H locs → K7 x3 L = some res → W p l e ({ frames := 1, cells := 0, slots := 0, locals := 21 }) s m args below meth c H locs 0 0 Q (F0 m 7 ls [])) (H : Heap) (locs : List Loc) (ls : Array Slot) (hl : lv_has ls 5 [(0, .ref (a 0)), (1, .ref (b 0)), (2, .int (x2)), (3, .int (x3))]) (hP : va_P (dC, dI) vwCl (wW cs a L ++ wT cs b T) H) (hD : va_D A (wW cs a L ++ wT cs b T)) (hS : va_S A s.heap H locs) (hf : f_X6_listParts_7 x2 x3 L T K7 = some res) : W p l e ({ frames := 1, cells := 0, slots := 0, locals := 21 }) s m args below meth c H locs 0 0 Q (F0 m 7 ls []) := by
  obtain ⟨hx, hb, hml, hown, hts⟩ := id C
  obtain ⟨hK, hN⟩ := id G
  unfold f_X6_listParts_7 at hf
  refine lv_iload_n hx hb dX6_listParts_7 rfl (lv_at hl 3 rfl) ?_
  refine lv_aload_n hx hb dX6_listParts_8 rfl (lv_at hl 1 rfl) ?_
  refine va_get (D := (dC, dI)) (ci := 5) (v := .int ((T.1 5))) (C := RX5) (T := TX5) (N := 17) hx hb hts in_X6_listParts_X5 hown hK hP 4 rfl rfl 5 (by decide) (hts (.fieldLink RX6 49 "BackLoans$Town" "loans" "I") (by decide +kernel)) (fun _ h9 => h9) rfl dX6_listParts_9 ?_
  refine lv_icmp_ge (tgt := 96) hx hb dX6_listParts_12 (by decide) (fun c1 => ?_) (fun c1 => ?_)
  · replace hf := it_t c1 hf
    exact hR _ _ _ _ _ dX6_listParts_96 hf hP hD hS
  · replace hf := it_f c1 hf
    refine lv_aload_n hx hb dX6_listParts_15 rfl (lv_at hl 1 rfl) ?_
    refine va_get (D := (dC, dI)) (ci := 5) (v := .ref (b 7)) (C := RX5) (T := TX5) (N := 17) hx hb hts in_X6_listParts_X5 hown hK hP 4 rfl rfl 13 (by decide) (hts (.fieldLink RX6 54 "BackLoans$Town" "state" "[I") (by decide +kernel)) (fun _ h9 => h9) rfl dX6_listParts_16 ?_
    refine lv_iload_n hx hb dX6_listParts_19 rfl (lv_at hl 3 rfl) ?_
    obtain ⟨hi2, hf⟩ := gi_e hf
    refine va_iald hx hb hK hP 11 0 rfl rfl hi2 dX6_listParts_20 ?_
    refine lv_if_eq (tgt := 44) hx hb dX6_listParts_21 (by decide) (fun c3 => ?_) (fun c3 => ?_)
    · replace hf := it_t c3 hf
      exact b_X6_listParts_44 C G hA hR x2 x3 L T hK7 _ _ _ (lv_sub hl [0, 1, 2, 3] rfl) hP hD hS hf
    · replace hf := it_f c3 hf
      refine lv_aload_n hx hb dX6_listParts_24 rfl (lv_at hl 1 rfl) ?_
      refine va_get (D := (dC, dI)) (ci := 5) (v := .ref (b 7)) (C := RX5) (T := TX5) (N := 17) hx hb hts in_X6_listParts_X5 hown hK hP 4 rfl rfl 13 (by decide) (hts (.fieldLink RX6 54 "BackLoans$Town" "state" "[I") (by decide +kernel)) (fun _ h9 => h9) rfl dX6_listParts_25 ?_
      refine lv_iload_n hx hb dX6_listParts_28 rfl (lv_at hl 3 rfl) ?_
      obtain ⟨hi4, hf⟩ := gi_e hf
      refine va_iald hx hb hK hP 11 0 rfl rfl hi4 dX6_listParts_29 ?_
      refine lv_iconst (v := 2) hx hb dX6_listParts_30 (by decide) ?_
      refine lv_icmp_eq (tgt := 44) hx hb dX6_listParts_31 (by decide) (fun c5 => ?_) (fun c5 => ?_)
      · replace hf := it_t c5 hf
        exact b_X6_listParts_44 C G hA hR x2 x3 L T hK7 _ _ _ (lv_sub hl [0, 1, 2, 3] rfl) hP hD hS hf
      · replace hf := it_f c5 hf
        refine lv_aload_n hx hb dX6_listParts_34 rfl (lv_at hl 1 rfl) ?_
        refine va_get (D := (dC, dI)) (ci := 5) (v := .ref (b 7)) (C := RX5) (T := TX5) (N := 17) hx hb hts in_X6_listParts_X5 hown hK hP 4 rfl rfl 13 (by decide) (hts (.fieldLink RX6 54 "BackLoans$Town" "state" "[I") (by decide +kernel)) (fun _ h9 => h9) rfl dX6_listParts_35 ?_
        refine lv_iload_n hx hb dX6_listParts_38 rfl (lv_at hl 3 rfl) ?_
        obtain ⟨hi6, hf⟩ := gi_e hf
        refine va_iald hx hb hK hP 11 0 rfl rfl hi6 dX6_listParts_39 ?_
        refine lv_iconst (v := 3) hx hb dX6_listParts_40 (by decide) ?_
        refine lv_icmp_ne (tgt := 48) hx hb dX6_listParts_41 (by decide) (fun c7 => ?_) (fun c7 => ?_)
        · replace hf := it_f c7 hf
          refine lv_iconst (v := 0) hx hb dX6_listParts_48 (by decide) ?_
          exact b_X6_listParts_49 C G hA hR x2 x3 (0 : Int32) L T hK7 _ _ _ (lv_sub hl [0, 1, 2, 3] rfl) hP hD hS hf
        · replace hf := it_t c7 hf
          exact b_X6_listParts_44 C G hA hR x2 x3 L T hK7 _ _ _ (lv_sub hl [0, 1, 2, 3] rfl) hP hD hS hf
def l_X6_listParts_7 (x2 : Int32) (T : Tw)  (n : Nat) (x3 : Int32) (L : Wl) : Option Wl := itr (fun (k : Int32 × Wl → Option Wl) (z : Int32 × Wl) => f_X6_listParts_7 x2 z.1 z.2 T (fun x3 L => k (x3, L))) n (x3, L)
set_option maxHeartbeats 4000000 in
set_option maxRecDepth 100000 in
theorem w_X6_listParts_7 {p : Program} {l : Launch} {e : Env} {s : State} {m : MethodId} {args : Array Value} {below : List Frame} {meth : Method} {c : Code} {Q : State → Prop} {dC : Nat → ClassId} {dI : Nat → Nat → Nat} {cs : Nat → ClassId} {A : Nat → Prop} {a : Nat → Nat} {b : Nat → Nat} {res : Wl} (C : CallFix p m c cX6_listParts 5 s args wsX6_listParts RX6) (G : GE dC dI cs s) (hA : ∀ q : Nat, s.heap.size ≤ q → A q) {T : Tw} (hR : RTv p l e ({ frames := 1, cells := 0, slots := 0, locals := 21 }) s m args below meth c cX6_listParts Q (dC, dI) A (fun u : Wl => (wW cs a u ++ wT cs b T)) res) (x2 : Int32) (_ : Tw)   : ∀ (n : Nat) (x3 : Int32) (L : Wl) (H : Heap) (locs : List Loc) (ls : Array Slot), lv_has ls 5 [(0, .ref (a 0)), (1, .ref (b 0)), (2, .int (x2)), (3, .int (x3))] → va_P (dC, dI) vwCl (wW cs a L ++ wT cs b T) H → va_D A (wW cs a L ++ wT cs b T) → va_S A s.heap H locs → l_X6_listParts_7 x2 T n x3 L = some res → W p l e ({ frames := 1, cells := 0, slots := 0, locals := 21 }) s m args below meth c H locs 0 0 Q (F0 m 7 ls []) := by
  intro n
  induction n with
  | zero => intro x3 L H locs ls hl hP hD hS hf; exact absurd hf (by simp [l_X6_listParts_7, itr])
  | succ n ih => intro x3 L H locs ls hl hP hD hS hf; exact b_X6_listParts_7 C G hA hR x2 x3 L T (K7 := fun x3 L => l_X6_listParts_7 x2 T n x3 L) (fun x3 L H locs ls hl hP hD hS hf => ih x3 L H locs ls hl hP hD hS hf) H locs ls hl hP hD hS hf
def f_X6_listParts (x2 : Int32) (L : Wl) (T : Tw) : Option Wl :=
  lett ((upd L.1 1 ((0 : Int32)), L.2)) fun L_2 =>
  lett (0 : Int32) fun x3_6 =>
  l_X6_listParts_7 x2 T FU x3_6 L_2
set_option maxHeartbeats 4000000 in
set_option maxRecDepth 100000 in
theorem c_X6_listParts (l : Launch) (dC : Nat → ClassId) (dI : Nat → Nat → Nat) (cs : Nat → ClassId) (a : Nat → Nat) (b : Nat → Nat) (sz : Nat) (L : Wl) (T : Tw) (x2 : Int32) (res : Wl) (hf : f_X6_listParts x2 L T = some res) : Met l yX6_listParts wsX6_listParts ({ frames := 1, cells := 0, slots := 0, locals := 21 }) (va_Pc [.ref (a 0), .ref (b 0), .int (x2)] (fun U => U.heap.size = sz ∧ va_P (dC, dI) vwCl (wW cs a L ++ wT cs b T) U.heap ∧ GE dC dI cs U ∧ va_D (fun _ => True) (wW cs a L ++ wT cs b T))) (va_Qv (fun u : Wl => u = res) (fun u t => va_P (dC, dI) vwCl ((fun u : Wl => (wW cs a u ++ wT cs b T)) u) t.heap ∧ va_D (va_A (wW cs a L ++ wT cs b T) sz) ((fun u : Wl => (wW cs a u ++ wT cs b T)) u)) (va_A (wW cs a L ++ wT cs b T) sz)) 0 0 (va_A (wW cs a L ++ wT cs b T) sz) := by
  refine Met.ofW (cc := cX6_listParts) (maxL := 5) (ret := none) (by decide) rfl ?_
  intro p e s m args below meth c s₁ B hml hv
  obtain ⟨rfl, hsz, hP, G, hD0⟩ := hv
  have hts := atoms_spec (ws := wsX6_listParts) B.pre
  have hown : s.vm.findClass RX6 = some m.cls := findClass_of_methodNamed B.named
  have hlocks := B.notSynchronized
  have hx := B.exec
  have hb := B.bytes
  have hr := B.returns
  have C : CallFix p m c cX6_listParts 5 s _ wsX6_listParts RX6 := ⟨hx, hb, hml, hown, hts⟩
  obtain ⟨hK, hN⟩ := id G
  subst hsz
  have hD := hD0.self (sz := s.heap.size)
  generalize hAe : va_A (wW cs a L ++ wT cs b T) s.heap.size = A at hD ⊢
  have hA : ∀ q : Nat, s.heap.size ≤ q → A q := fun q h => by rw [← hAe]; exact Or.inr h
  have hS : va_S A s.heap s.heap [] := va_S.rf
  have hR : RTv p l e ({ frames := 1, cells := 0, slots := 0, locals := 21 }) s m ([.ref (a 0), .ref (b 0), .int (x2)] : List Value).toArray below meth c cX6_listParts (MQ below (va_Qv (fun u : Wl => u = res) (fun u t => va_P (dC, dI) vwCl ((fun u : Wl => (wW cs a u ++ wT cs b T)) u) t.heap ∧ va_D A ((fun u : Wl => (wW cs a u ++ wT cs b T)) u)) A) ([.ref (a 0), .ref (b 0), .int (x2)] : List Value).toArray s 0 0 A) (dC, dI) A (fun u : Wl => (wW cs a u ++ wT cs b T)) res := fun H locs pc ls u dd h hP hD hS => W.vret hx hb hr (fun t ht hW => ⟨⟨u, rfl, by cases h; rfl, by rw [ht]; exact hP, hD⟩, hS.F ht⟩) hS.2.2 dd
  have hl := lv_entry ([.ref (a 0), .ref (b 0), .int (x2)]) (n := 5) (Nat.le_of_ble_eq_true rfl)
  rw [lg_entry_eq]
  generalize (lg_sl ([.ref (a 0), .ref (b 0), .int (x2)]) ++ List.replicate (5 - (lg_sl ([.ref (a 0), .ref (b 0), .int (x2)])).length) Slot.unset).toArray = ls at hl ⊢
  have hl : lv_has ls 5 [(0, .ref (a 0)), (1, .ref (b 0)), (2, .int (x2))] := hl
  unfold f_X6_listParts at hf
  refine lv_aload_n hx hb dX6_listParts_0 rfl (lv_at hl 0 rfl) ?_
  refine lv_iconst (v := 0) hx hb dX6_listParts_1 (by decide) ?_
  refine va_put (D := (dC, dI)) (ci := 6) (v := .int ((0 : Int32))) (ty := .int) (C := RX6) (T := TX6) (N := 7) hx hb hts in_X6_listParts_X6 tyX6 tyX6_ok nmX6 hown hK hP hD hS 0 rfl rfl 1 (by decide) (hts (.fieldLink RX6 43 "BackLoans$Will" "parts" "I") (by decide +kernel)) (fun _ h9 => h9) rfl (by decide +kernel) rfl rfl (Nat.le_of_ble_eq_true rfl) dX6_listParts_2 (fun H locs hP hD hS => ?_)
  obtain ⟨L_2, hP, hD, hf⟩ := st_nm (ws := fun L_2 : Wl => (wW cs a L_2 ++ wT cs b T)) ((upd L.1 1 ((0 : Int32)), L.2)) hP hD hf
  refine lv_iconst (v := 0) hx hb dX6_listParts_5 (by decide) ?_
  refine lv_topi (fun x3_6 ex3_6 => ?_)
  replace hf := lett_s ex3_6 hf
  refine lv_istore_n (lv' := [(3, .int (x3_6)), (0, .ref (a 0)), (1, .ref (b 0)), (2, .int (x2))]) hx hb dX6_listParts_6 rfl hl (by decide) rfl (fun ls hl => ?_)
  exact w_X6_listParts_7 C G hA hR x2 T FU x3_6 L_2 _ _ _ (lv_sub hl [1, 2, 3, 0] rfl) hP hD hS hf

theorem in_X6_share_X6 : ∀ w ∈ wsX60, w ∈ wsX6_share := by decide +kernel
def f_X6_share_67 (x4 : Int32) (x5 : Int32) (L : Wl) (T : Tw) (K31 : Int32 → Wl → Option Wl) : Option Wl :=
  lett (x5 + 1) fun x5_67 =>
  K31 x5_67 L
set_option maxHeartbeats 4000000 in
set_option maxRecDepth 100000 in
theorem b_X6_share_67 {p : Program} {l : Launch} {e : Env} {s : State} {m : MethodId} {args : Array Value} {below : List Frame} {meth : Method} {c : Code} {Q : State → Prop} {dC : Nat → ClassId} {dI : Nat → Nat → Nat} {cs : Nat → ClassId} {A : Nat → Prop} {a : Nat → Nat} {b : Nat → Nat} {res : Wl} (C : CallFix p m c cX6_share 7 s args wsX6_share RX6) (G : GE dC dI cs s) (hA : ∀ q : Nat, s.heap.size ≤ q → A q) {T : Tw} (hR : RTv p l e ({ frames := 2, cells := 0, slots := 0, locals := 45 }) s m args below meth c cX6_share Q (dC, dI) A (fun u : Wl => (wW cs a u ++ wT cs b T)) res) (x4 : Int32) (x5 : Int32) (L : Wl) (_ : Tw) {K31 : Int32 → Wl → Option Wl} (hK31 : ∀ (x5 : Int32) (L : Wl) (H : Heap) (locs : List Loc) (ls : Array Slot), lv_has ls 7 [(0, .ref (a 0)), (4, .int (x4)), (5, .int (x5))] → va_P (dC, dI) vwCl (wW cs a L ++ wT cs b T) H → va_D A (wW cs a L ++ wT cs b T) → va_S A s.heap H locs → K31 x5 L = some res → W p l e ({ frames := 2, cells := 0, slots := 0, locals := 45 }) s m args below meth c H locs 0 0 Q (F0 m 31 ls [])) (H : Heap) (locs : List Loc) (ls : Array Slot) (hl : lv_has ls 7 [(0, .ref (a 0)), (4, .int (x4)), (5, .int (x5))]) (hP : va_P (dC, dI) vwCl (wW cs a L ++ wT cs b T) H) (hD : va_D A (wW cs a L ++ wT cs b T)) (hS : va_S A s.heap H locs) (hf : f_X6_share_67 x4 x5 L T K31 = some res) : W p l e ({ frames := 2, cells := 0, slots := 0, locals := 45 }) s m args below meth c H locs 0 0 Q (F0 m 67 ls []) := by
  obtain ⟨hx, hb, hml, hown, hts⟩ := id C
  obtain ⟨hK, hN⟩ := id G
  unfold f_X6_share_67 at hf
  obtain ⟨x5_67, ex5_67⟩ : ∃ y : Int32, y = (x5 + 1) := ⟨_, rfl⟩
  replace hf := lett_s ex5_67 hf
  refine lv_iinc (v := x5_67) (lv' := [(5, .int (x5_67)), (0, .ref (a 0)), (4, .int (x4))]) hx hb dX6_share_67 hl (k := 2) rfl (by rw [ex5_67]; rfl) (by decide) rfl (fun ls hl => ?_)
  refine lv_goto (tgt := 31) hx hb dX6_share_70 (by decide) ?_
  exact hK31 x5_67 L _ _ _ (lv_sub hl [1, 2, 0] rfl) hP hD hS hf
def f_X6_share_31 (x4 : Int32) (x5 : Int32) (L : Wl) (T : Tw) (K31 : Int32 → Wl → Option Wl) : Option Wl :=
  if x4 ≤ x5 then (
    some L
  ) else (
    bn (f_X6_leastShare x5 L) fun r41 =>
    if r41.1 ≤ (r41.2.1 0) then (
      f_X6_share_67 x4 x5 r41.2 T K31
    ) else (
      lett ((upd r41.2.1 0 (r41.1), r41.2.2)) fun L_58 =>
      lett ((upd L_58.1 3 (x5), L_58.2)) fun L_64 =>
      f_X6_share_67 x4 x5 L_64 T K31
    )
  )
set_option maxHeartbeats 4000000 in
set_option maxRecDepth 100000 in
theorem b_X6_share_31 {p : Program} {l : Launch} {e : Env} {s : State} {m : MethodId} {args : Array Value} {below : List Frame} {meth : Method} {c : Code} {Q : State → Prop} {dC : Nat → ClassId} {dI : Nat → Nat → Nat} {cs : Nat → ClassId} {A : Nat → Prop} {a : Nat → Nat} {b : Nat → Nat} {res : Wl} (C : CallFix p m c cX6_share 7 s args wsX6_share RX6) (G : GE dC dI cs s) (hA : ∀ q : Nat, s.heap.size ≤ q → A q) {T : Tw} (hR : RTv p l e ({ frames := 2, cells := 0, slots := 0, locals := 45 }) s m args below meth c cX6_share Q (dC, dI) A (fun u : Wl => (wW cs a u ++ wT cs b T)) res) (x4 : Int32) (x5 : Int32) (L : Wl) (_ : Tw) {K31 : Int32 → Wl → Option Wl} (hK31 : ∀ (x5 : Int32) (L : Wl) (H : Heap) (locs : List Loc) (ls : Array Slot), lv_has ls 7 [(0, .ref (a 0)), (4, .int (x4)), (5, .int (x5))] → va_P (dC, dI) vwCl (wW cs a L ++ wT cs b T) H → va_D A (wW cs a L ++ wT cs b T) → va_S A s.heap H locs → K31 x5 L = some res → W p l e ({ frames := 2, cells := 0, slots := 0, locals := 45 }) s m args below meth c H locs 0 0 Q (F0 m 31 ls [])) (H : Heap) (locs : List Loc) (ls : Array Slot) (hl : lv_has ls 7 [(0, .ref (a 0)), (4, .int (x4)), (5, .int (x5))]) (hP : va_P (dC, dI) vwCl (wW cs a L ++ wT cs b T) H) (hD : va_D A (wW cs a L ++ wT cs b T)) (hS : va_S A s.heap H locs) (hf : f_X6_share_31 x4 x5 L T K31 = some res) : W p l e ({ frames := 2, cells := 0, slots := 0, locals := 45 }) s m args below meth c H locs 0 0 Q (F0 m 31 ls []) := by
  obtain ⟨hx, hb, hml, hown, hts⟩ := id C
  obtain ⟨hK, hN⟩ := id G
  unfold f_X6_share_31 at hf
  refine lv_iload hx hb dX6_share_31 (lv_at hl 2 rfl) ?_
  refine lv_iload hx hb dX6_share_33 (lv_at hl 1 rfl) ?_
  refine lv_icmp_ge (tgt := 73) hx hb dX6_share_35 (by decide) (fun c1 => ?_) (fun c1 => ?_)
  · replace hf := it_t c1 hf
    exact hR _ _ _ _ _ dX6_share_73 hf hP hD hS
  · replace hf := it_f c1 hf
    refine lv_aload_n hx hb dX6_share_38 rfl (lv_at hl 0 rfl) ?_
    refine lv_iload hx hb dX6_share_39 (lv_at hl 2 rfl) ?_
    obtain ⟨r41, hr41, hf⟩ := bn_e hf
    have hPc := hP.sub (ws' := (wW cs a L)) [0, 1, 2, 3] rfl
    have hDc := hD.sub (ws' := (wW cs a L)) [0, 1, 2, 3] (by decide) rfl
    have hFc := va_free (wc := (wW cs a L)) hD hS hA [0, 1, 2, 3] rfl
    refine va_calli (va_runV (As := [.int (x5)]) (rest := []) C (c_X6_leastShare l dC dI cs a H.size L x5 r41 hr41) (cwV 1 hts gX6_share_X6_leastShare rfl rfl rfl (by decide +kernel) ⟨Nat.le_of_ble_eq_true rfl, Nat.le_of_ble_eq_true rfl⟩) ⟨(fun a U g mk q => ⟨q.1, q.2.1, q.2.2.1, GE.calling q.2.2.2.1, q.2.2.2.2⟩), va_recv hK hPc (ci := 6) (q0 := 0) rfl rfl, (fun U hU hW => ⟨rfl, by rw [hU], by rw [hU]; exact hPc, GE.warm hW G, hDc.weaken (fun _ _ _ _ => trivial)⟩)⟩ rfl rfl hl.1 rfl (lv_room (Nat.le_of_ble_eq_true rfl)) dX6_share_41 ⟨Nat.le_of_ble_eq_true rfl, Nat.le_of_ble_eq_true rfl⟩) hS (fun q _ h => hFc q h) hFc (fun q u t H1 locs ht hvm hw hB hz1 hk1 hS => ?_)
    obtain ⟨rfl, rfl⟩ := hw
    obtain ⟨hP1, hD1⟩ := hB
    rw [ht] at hP1
    obtain ⟨hP, hD⟩ := va_join (wr := [4, 5, 6, 7, 8, 9, 10, 11, 12, 13, 14].filterMap (fun i => ((wW cs a L ++ wT cs b T))[i]?)) (w1 := (wW cs a r41.2)) hP hD [0, 1, 2, 3] [4, 5, 6, 7, 8, 9, 10, 11, 12, 13, 14] rfl rfl (by decide) (by decide) hk1 hFc hP1 hD1
    generalize H1 = H at hP hS ⊢
    have hP := hP.sub (ws' := (wW cs a r41.2 ++ wT cs b T)) [11, 12, 13, 14, 0, 1, 2, 3, 4, 5, 6, 7, 8, 9, 10] rfl
    have hD := hD.sub (ws' := (wW cs a r41.2 ++ wT cs b T)) [11, 12, 13, 14, 0, 1, 2, 3, 4, 5, 6, 7, 8, 9, 10] (by decide) rfl
    refine lv_istore (lv' := [(6, .int (r41.1)), (0, .ref (a 0)), (4, .int (x4)), (5, .int (x5))]) hx hb dX6_share_44 hl (by decide) rfl (fun ls hl => ?_)
    refine lv_iload hx hb dX6_share_46 (lv_at hl 0 rfl) ?_
    refine lv_aload_n hx hb dX6_share_48 rfl (lv_at hl 1 rfl) ?_
    refine va_get (D := (dC, dI)) (ci := 6) (v := .int ((r41.2.1 0))) (C := RX6) (T := TX6) (N := 7) hx hb hts in_X6_share_X6 hown hK hP 0 rfl rfl 0 (by decide) (hts (.fieldLink RX6 28 "BackLoans$Will" "least" "I") (by decide +kernel)) (fun _ h9 => h9) rfl dX6_share_49 ?_
    refine lv_icmp_le (tgt := 67) hx hb dX6_share_52 (by decide) (fun c2 => ?_) (fun c2 => ?_)
    · replace hf := it_t c2 hf
      exact b_X6_share_67 C G hA hR x4 x5 r41.2 T hK31 _ _ _ (lv_sub hl [1, 2, 3] rfl) hP hD hS hf
    · replace hf := it_f c2 hf
      refine lv_aload_n hx hb dX6_share_55 rfl (lv_at hl 1 rfl) ?_
      refine lv_iload hx hb dX6_share_56 (lv_at hl 0 rfl) ?_
      refine va_put (D := (dC, dI)) (ci := 6) (v := .int (r41.1)) (ty := .int) (C := RX6) (T := TX6) (N := 7) hx hb hts in_X6_share_X6 tyX6 tyX6_ok nmX6 hown hK hP hD hS 0 rfl rfl 0 (by decide) (hts (.fieldLink RX6 28 "BackLoans$Will" "least" "I") (by decide +kernel)) (fun _ h9 => h9) rfl (by decide +kernel) rfl rfl (Nat.le_of_ble_eq_true rfl) dX6_share_58 (fun H locs hP hD hS => ?_)
      obtain ⟨L_58, hP, hD, hf⟩ := st_nm (ws := fun L_58 : Wl => (wW cs a L_58 ++ wT cs b T)) ((upd r41.2.1 0 (r41.1), r41.2.2)) hP hD hf
      refine lv_aload_n hx hb dX6_share_61 rfl (lv_at hl 1 rfl) ?_
      refine lv_iload hx hb dX6_share_62 (lv_at hl 3 rfl) ?_
      refine va_put (D := (dC, dI)) (ci := 6) (v := .int (x5)) (ty := .int) (C := RX6) (T := TX6) (N := 7) hx hb hts in_X6_share_X6 tyX6 tyX6_ok nmX6 hown hK hP hD hS 0 rfl rfl 3 (by decide) (hts (.fieldLink RX6 32 "BackLoans$Will" "way" "I") (by decide +kernel)) (fun _ h9 => h9) rfl (by decide +kernel) rfl rfl (Nat.le_of_ble_eq_true rfl) dX6_share_64 (fun H locs hP hD hS => ?_)
      obtain ⟨L_64, hP, hD, hf⟩ := st_nm (ws := fun L_64 : Wl => (wW cs a L_64 ++ wT cs b T)) ((upd L_58.1 3 (x5), L_58.2)) hP hD hf
      exact b_X6_share_67 C G hA hR x4 x5 L_64 T hK31 _ _ _ (lv_sub hl [1, 2, 3] rfl) hP hD hS hf
def l_X6_share_31 (x4 : Int32) (T : Tw)  (n : Nat) (x5 : Int32) (L : Wl) : Option Wl := itr (fun (k : Int32 × Wl → Option Wl) (z : Int32 × Wl) => f_X6_share_31 x4 z.1 z.2 T (fun x5 L => k (x5, L))) n (x5, L)
set_option maxHeartbeats 4000000 in
set_option maxRecDepth 100000 in
theorem w_X6_share_31 {p : Program} {l : Launch} {e : Env} {s : State} {m : MethodId} {args : Array Value} {below : List Frame} {meth : Method} {c : Code} {Q : State → Prop} {dC : Nat → ClassId} {dI : Nat → Nat → Nat} {cs : Nat → ClassId} {A : Nat → Prop} {a : Nat → Nat} {b : Nat → Nat} {res : Wl} (C : CallFix p m c cX6_share 7 s args wsX6_share RX6) (G : GE dC dI cs s) (hA : ∀ q : Nat, s.heap.size ≤ q → A q) {T : Tw} (hR : RTv p l e ({ frames := 2, cells := 0, slots := 0, locals := 45 }) s m args below meth c cX6_share Q (dC, dI) A (fun u : Wl => (wW cs a u ++ wT cs b T)) res) (x4 : Int32) (_ : Tw)   : ∀ (n : Nat) (x5 : Int32) (L : Wl) (H : Heap) (locs : List Loc) (ls : Array Slot), lv_has ls 7 [(0, .ref (a 0)), (4, .int (x4)), (5, .int (x5))] → va_P (dC, dI) vwCl (wW cs a L ++ wT cs b T) H → va_D A (wW cs a L ++ wT cs b T) → va_S A s.heap H locs → l_X6_share_31 x4 T n x5 L = some res → W p l e ({ frames := 2, cells := 0, slots := 0, locals := 45 }) s m args below meth c H locs 0 0 Q (F0 m 31 ls []) := by
  intro n
  induction n with
  | zero => intro x5 L H locs ls hl hP hD hS hf; exact absurd hf (by simp [l_X6_share_31, itr])
  | succ n ih => intro x5 L H locs ls hl hP hD hS hf; exact b_X6_share_31 C G hA hR x4 x5 L T (K31 := fun x5 L => l_X6_share_31 x4 T n x5 L) (fun x5 L H locs ls hl hP hD hS hf => ih x5 L H locs ls hl hP hD hS hf) H locs ls hl hP hD hS hf
def f_X6_share (x2 : Int32) (x3 : Int32) (L : Wl) (T : Tw) : Option Wl :=
  bn (f_X6_listParts x2 L T) fun r3 =>
  bn (f_X6_listHeirs x3 r3 T) fun r9 =>
  lett ((upd r9.1 0 ((-1 : Int32)), r9.2)) fun L_14 =>
  lett ((upd L_14.1 3 ((0 : Int32)), L_14.2)) fun L_19 =>
  bn (f_X6_countWays L_19) fun r23 =>
  lett (0 : Int32) fun x5_29 =>
  l_X6_share_31 r23 T FU x5_29 L_19
set_option maxHeartbeats 4000000 in
set_option maxRecDepth 100000 in
theorem c_X6_share (l : Launch) (dC : Nat → ClassId) (dI : Nat → Nat → Nat) (cs : Nat → ClassId) (a : Nat → Nat) (b : Nat → Nat) (sz : Nat) (L : Wl) (T : Tw) (x2 : Int32) (x3 : Int32) (res : Wl) (hf : f_X6_share x2 x3 L T = some res) : Met l yX6_share wsX6_share ({ frames := 2, cells := 0, slots := 0, locals := 45 }) (va_Pc [.ref (a 0), .ref (b 0), .int (x2), .int (x3)] (fun U => U.heap.size = sz ∧ va_P (dC, dI) vwCl (wW cs a L ++ wT cs b T) U.heap ∧ GE dC dI cs U ∧ va_D (fun _ => True) (wW cs a L ++ wT cs b T))) (va_Qv (fun u : Wl => u = res) (fun u t => va_P (dC, dI) vwCl ((fun u : Wl => (wW cs a u ++ wT cs b T)) u) t.heap ∧ va_D (va_A (wW cs a L ++ wT cs b T) sz) ((fun u : Wl => (wW cs a u ++ wT cs b T)) u)) (va_A (wW cs a L ++ wT cs b T) sz)) 0 0 (va_A (wW cs a L ++ wT cs b T) sz) := by
  refine Met.ofW (cc := cX6_share) (maxL := 7) (ret := none) (by decide) rfl ?_
  intro p e s m args below meth c s₁ B hml hv
  obtain ⟨rfl, hsz, hP, G, hD0⟩ := hv
  have hts := atoms_spec (ws := wsX6_share) B.pre
  have hown : s.vm.findClass RX6 = some m.cls := findClass_of_methodNamed B.named
  have hlocks := B.notSynchronized
  have hx := B.exec
  have hb := B.bytes
  have hr := B.returns
  have C : CallFix p m c cX6_share 7 s _ wsX6_share RX6 := ⟨hx, hb, hml, hown, hts⟩
  obtain ⟨hK, hN⟩ := id G
  subst hsz
  have hD := hD0.self (sz := s.heap.size)
  generalize hAe : va_A (wW cs a L ++ wT cs b T) s.heap.size = A at hD ⊢
  have hA : ∀ q : Nat, s.heap.size ≤ q → A q := fun q h => by rw [← hAe]; exact Or.inr h
  have hS : va_S A s.heap s.heap [] := va_S.rf
  have hR : RTv p l e ({ frames := 2, cells := 0, slots := 0, locals := 45 }) s m ([.ref (a 0), .ref (b 0), .int (x2), .int (x3)] : List Value).toArray below meth c cX6_share (MQ below (va_Qv (fun u : Wl => u = res) (fun u t => va_P (dC, dI) vwCl ((fun u : Wl => (wW cs a u ++ wT cs b T)) u) t.heap ∧ va_D A ((fun u : Wl => (wW cs a u ++ wT cs b T)) u)) A) ([.ref (a 0), .ref (b 0), .int (x2), .int (x3)] : List Value).toArray s 0 0 A) (dC, dI) A (fun u : Wl => (wW cs a u ++ wT cs b T)) res := fun H locs pc ls u dd h hP hD hS => W.vret hx hb hr (fun t ht hW => ⟨⟨u, rfl, by cases h; rfl, by rw [ht]; exact hP, hD⟩, hS.F ht⟩) hS.2.2 dd
  have hl := lv_entry ([.ref (a 0), .ref (b 0), .int (x2), .int (x3)]) (n := 7) (Nat.le_of_ble_eq_true rfl)
  rw [lg_entry_eq]
  generalize (lg_sl ([.ref (a 0), .ref (b 0), .int (x2), .int (x3)]) ++ List.replicate (7 - (lg_sl ([.ref (a 0), .ref (b 0), .int (x2), .int (x3)])).length) Slot.unset).toArray = ls at hl ⊢
  have hl : lv_has ls 7 [(0, .ref (a 0)), (1, .ref (b 0)), (2, .int (x2)), (3, .int (x3))] := hl
  unfold f_X6_share at hf
  refine lv_aload_n hx hb dX6_share_0 rfl (lv_at hl 0 rfl) ?_
  refine lv_aload_n hx hb dX6_share_1 rfl (lv_at hl 1 rfl) ?_
  refine lv_iload_n hx hb dX6_share_2 rfl (lv_at hl 2 rfl) ?_
  obtain ⟨r3, hr3, hf⟩ := bn_e hf
  have hPc := hP.sub (ws' := (wW cs a L ++ wT cs b T)) [0, 1, 2, 3, 4, 5, 6, 7, 8, 9, 10, 11, 12, 13, 14] rfl
  have hDc := hD.sub (ws' := (wW cs a L ++ wT cs b T)) [0, 1, 2, 3, 4, 5, 6, 7, 8, 9, 10, 11, 12, 13, 14] (by decide) rfl
  have hFc := va_free (wc := (wW cs a L ++ wT cs b T)) hD hS hA [0, 1, 2, 3, 4, 5, 6, 7, 8, 9, 10, 11, 12, 13, 14] rfl
  refine va_callv (va_runV (As := [.ref (b 0), .int (x2)]) (rest := []) C (c_X6_listParts l dC dI cs a b s.heap.size L T x2 r3 hr3) (cwV 2 hts gX6_share_X6_listParts rfl rfl rfl (by decide +kernel) ⟨Nat.le_of_ble_eq_true rfl, Nat.le_of_ble_eq_true rfl⟩) ⟨(fun a U g mk q => ⟨q.1, q.2.1, q.2.2.1, GE.calling q.2.2.2.1, q.2.2.2.2⟩), va_recv hK hPc (ci := 6) (q0 := 0) rfl rfl, (fun U hU hW => ⟨rfl, by rw [hU], by rw [hU]; exact hPc, GE.warm hW G, hDc.weaken (fun _ _ _ _ => trivial)⟩)⟩ rfl rfl hl.1 rfl (lv_room (Nat.le_of_ble_eq_true rfl)) dX6_share_3 ⟨Nat.le_of_ble_eq_true rfl, Nat.le_of_ble_eq_true rfl⟩) hS (fun q _ h => hFc q h) hFc (fun u t H1 locs ht hvm hw hB hz1 hk1 hS => ?_)
  obtain rfl := hw.symm
  obtain ⟨hP1, hD1⟩ := hB
  rw [ht] at hP1
  obtain ⟨hP, hD⟩ := va_join (wr := []) (w1 := (wW cs a r3 ++ wT cs b T)) hP hD [0, 1, 2, 3, 4, 5, 6, 7, 8, 9, 10, 11, 12, 13, 14] [] rfl rfl (by decide) (by decide) hk1 hFc hP1 hD1
  generalize H1 = H at hP hS ⊢
  have hP := hP.sub (ws' := (wW cs a r3 ++ wT cs b T)) [0, 1, 2, 3, 4, 5, 6, 7, 8, 9, 10, 11, 12, 13, 14] rfl
  have hD := hD.sub (ws' := (wW cs a r3 ++ wT cs b T)) [0, 1, 2, 3, 4, 5, 6, 7, 8, 9, 10, 11, 12, 13, 14] (by decide) rfl
  refine lv_aload_n hx hb dX6_share_6 rfl (lv_at hl 0 rfl) ?_
  refine lv_aload_n hx hb dX6_share_7 rfl (lv_at hl 1 rfl) ?_
  refine lv_iload_n hx hb dX6_share_8 rfl (lv_at hl 3 rfl) ?_
  obtain ⟨r9, hr9, hf⟩ := bn_e hf
  have hPc := hP.sub (ws' := (wW cs a r3 ++ wT cs b T)) [0, 1, 2, 3, 4, 5, 6, 7, 8, 9, 10, 11, 12, 13, 14] rfl
  have hDc := hD.sub (ws' := (wW cs a r3 ++ wT cs b T)) [0, 1, 2, 3, 4, 5, 6, 7, 8, 9, 10, 11, 12, 13, 14] (by decide) rfl
  have hFc := va_free (wc := (wW cs a r3 ++ wT cs b T)) hD hS hA [0, 1, 2, 3, 4, 5, 6, 7, 8, 9, 10, 11, 12, 13, 14] rfl
  refine va_callv (va_runV (As := [.ref (b 0), .int (x3)]) (rest := []) C (c_X6_listHeirs l dC dI cs a b H.size r3 T x3 r9 hr9) (cwV 2 hts gX6_share_X6_listHeirs rfl rfl rfl (by decide +kernel) ⟨Nat.le_of_ble_eq_true rfl, Nat.le_of_ble_eq_true rfl⟩) ⟨(fun a U g mk q => ⟨q.1, q.2.1, q.2.2.1, GE.calling q.2.2.2.1, q.2.2.2.2⟩), va_recv hK hPc (ci := 6) (q0 := 0) rfl rfl, (fun U hU hW => ⟨rfl, by rw [hU], by rw [hU]; exact hPc, GE.warm hW G, hDc.weaken (fun _ _ _ _ => trivial)⟩)⟩ rfl rfl hl.1 rfl (lv_room (Nat.le_of_ble_eq_true rfl)) dX6_share_9 ⟨Nat.le_of_ble_eq_true rfl, Nat.le_of_ble_eq_true rfl⟩) hS (fun q _ h => hFc q h) hFc (fun u t H1 locs ht hvm hw hB hz1 hk1 hS => ?_)
  obtain rfl := hw.symm
  obtain ⟨hP1, hD1⟩ := hB
  rw [ht] at hP1
  obtain ⟨hP, hD⟩ := va_join (wr := []) (w1 := (wW cs a r9 ++ wT cs b T)) hP hD [0, 1, 2, 3, 4, 5, 6, 7, 8, 9, 10, 11, 12, 13, 14] [] rfl rfl (by decide) (by decide) hk1 hFc hP1 hD1
  generalize H1 = H at hP hS ⊢
  have hP := hP.sub (ws' := (wW cs a r9 ++ wT cs b T)) [0, 1, 2, 3, 4, 5, 6, 7, 8, 9, 10, 11, 12, 13, 14] rfl
  have hD := hD.sub (ws' := (wW cs a r9 ++ wT cs b T)) [0, 1, 2, 3, 4, 5, 6, 7, 8, 9, 10, 11, 12, 13, 14] (by decide) rfl
  refine lv_aload_n hx hb dX6_share_12 rfl (lv_at hl 0 rfl) ?_
  refine lv_iconst (v := -1) hx hb dX6_share_13 (by decide) ?_
  refine va_put (D := (dC, dI)) (ci := 6) (v := .int ((-1 : Int32))) (ty := .int) (C := RX6) (T := TX6) (N := 7) hx hb hts in_X6_share_X6 tyX6 tyX6_ok nmX6 hown hK hP hD hS 0 rfl rfl 0 (by decide) (hts (.fieldLink RX6 28 "BackLoans$Will" "least" "I") (by decide +kernel)) (fun _ h9 => h9) rfl (by decide +kernel) rfl rfl (Nat.le_of_ble_eq_true rfl) dX6_share_14 (fun H locs hP hD hS => ?_)
  obtain ⟨L_14, hP, hD, hf⟩ := st_nm (ws := fun L_14 : Wl => (wW cs a L_14 ++ wT cs b T)) ((upd r9.1 0 ((-1 : Int32)), r9.2)) hP hD hf
  refine lv_aload_n hx hb dX6_share_17 rfl (lv_at hl 0 rfl) ?_
  refine lv_iconst (v := 0) hx hb dX6_share_18 (by decide) ?_
  refine va_put (D := (dC, dI)) (ci := 6) (v := .int ((0 : Int32))) (ty := .int) (C := RX6) (T := TX6) (N := 7) hx hb hts in_X6_share_X6 tyX6 tyX6_ok nmX6 hown hK hP hD hS 0 rfl rfl 3 (by decide) (hts (.fieldLink RX6 32 "BackLoans$Will" "way" "I") (by decide +kernel)) (fun _ h9 => h9) rfl (by decide +kernel) rfl rfl (Nat.le_of_ble_eq_true rfl) dX6_share_19 (fun H locs hP hD hS => ?_)
  obtain ⟨L_19, hP, hD, hf⟩ := st_nm (ws := fun L_19 : Wl => (wW cs a L_19 ++ wT cs b T)) ((upd L_14.1 3 ((0 : Int32)), L_14.2)) hP hD hf
  refine lv_aload_n hx hb dX6_share_22 rfl (lv_at hl 0 rfl) ?_
  obtain ⟨r23, hr23, hf⟩ := bn_e hf
  have hPc := hP.sub (ws' := (wW cs a L_19)) [0, 1, 2, 3] rfl
  refine vp_callSi (W.runV (As := []) (rest := []) C (c_X6_countWays l dC dI cs a L_19 r23 hr23) (cwV 0 hts gX6_share_X6_countWays rfl rfl rfl (by decide +kernel) ⟨Nat.le_of_ble_eq_true rfl, Nat.le_of_ble_eq_true rfl⟩) ⟨(fun a U g mk q => ⟨q.1, q.2.1, GE.calling q.2.2⟩), va_recv hK hPc (ci := 6) (q0 := 0) rfl rfl, (fun U hU hW => ⟨rfl, by rw [hU]; exact hPc, GE.warm hW G⟩)⟩ rfl rfl hl.1 rfl (lv_room (Nat.le_of_ble_eq_true rfl)) dX6_share_23 ⟨Nat.le_of_ble_eq_true rfl, Nat.le_of_ble_eq_true rfl⟩) (fun qr23 hqr23 => ?_)
  obtain rfl := hqr23.symm
  refine lv_istore (lv' := [(4, .int (r23)), (0, .ref (a 0)), (1, .ref (b 0)), (2, .int (x2)), (3, .int (x3))]) hx hb dX6_share_26 hl (by decide) rfl (fun ls hl => ?_)
  refine lv_iconst (v := 0) hx hb dX6_share_28 (by decide) ?_
  refine lv_topi (fun x5_29 ex5_29 => ?_)
  replace hf := lett_s ex5_29 hf
  refine lv_istore (lv' := [(5, .int (x5_29)), (4, .int (r23)), (0, .ref (a 0)), (1, .ref (b 0)), (2, .int (x2)), (3, .int (x3))]) hx hb dX6_share_29 hl (by decide) rfl (fun ls hl => ?_)
  exact w_X6_share_31 C G hA hR r23 T FU x5_29 L_19 _ _ _ (lv_sub hl [2, 1, 0] rfl) hP hD hS hf

theorem in_X6_heirOf_X6 : ∀ w ∈ wsX60, w ∈ wsX6_heirOf := by decide +kernel
def f_X6_heirOf_34 (x1 : Int32) (x2 : Int32) (x3 : Int32) (L : Wl) (K34 : Int32 → Int32 → Option Int32) (K52 : Int32 → Option Int32) : Option Int32 :=
  if x3 ≤ x1 then (
    K52 x2
  ) else (
    gz ((L.1 2)) <|
    lett (x2 / (L.1 2)) fun x2_45 =>
    lett (x3 + (-1)) fun x3_46 =>
    K34 x2_45 x3_46
  )
set_option maxHeartbeats 4000000 in
set_option maxRecDepth 100000 in
theorem b_X6_heirOf_34 {p : Program} {l : Launch} {e : Env} {s : State} {m : MethodId} {args : Array Value} {below : List Frame} {meth : Method} {c : Code} {Q : State → Prop} {dC : Nat → ClassId} {dI : Nat → Nat → Nat} {cs : Nat → ClassId} {a : Nat → Nat} {res : Int32} (C : CallFix p m c cX6_heirOf 4 s args wsX6_heirOf RX6) (G : GE dC dI cs s) (hR : RPi p l e ({ frames := 0, cells := 0, slots := 0, locals := 0 }) s m args below meth c cX6_heirOf Q res) {L : Wl} (hP : va_P (dC, dI) vwCl (wW cs a L) s.heap) (x1 : Int32) (x2 : Int32) (x3 : Int32) (_ : Wl) {K34 : Int32 → Int32 → Option Int32} {K52 : Int32 → Option Int32} (hK34 : ∀ (x2 : Int32) (x3 : Int32) (ls : Array Slot), lv_has ls 4 [(0, .ref (a 0)), (1, .int (x1)), (2, .int (x2)), (3, .int (x3))] → K34 x2 x3 = some res → W p l e ({ frames := 0, cells := 0, slots := 0, locals := 0 }) s m args below meth c s.heap [] 0 0 Q (F0 m 34 ls [])) (hK52 : ∀ (x2 : Int32) (ls : Array Slot), lv_has ls 4 [(0, .ref (a 0)), (2, .int (x2))] → K52 x2 = some res → W p l e ({ frames := 0, cells := 0, slots := 0, locals := 0 }) s m args below meth c s.heap [] 0 0 Q (F0 m 52 ls [])) (ls : Array Slot) (hl : lv_has ls 4 [(0, .ref (a 0)), (1, .int (x1)), (2, .int (x2)), (3, .int (x3))]) (hf : f_X6_heirOf_34 x1 x2 x3 L K34 K52 = some res) : W p l e ({ frames := 0, cells := 0, slots := 0, locals := 0 }) s m args below meth c s.heap [] 0 0 Q (F0 m 34 ls []) := by
  obtain ⟨hx, hb, hml, hown, hts⟩ := id C
  obtain ⟨hK, hN⟩ := id G
  unfold f_X6_heirOf_34 at hf
  refine lv_iload_n hx hb dX6_heirOf_34 rfl (lv_at hl 3 rfl) ?_
  refine lv_iload_n hx hb dX6_heirOf_35 rfl (lv_at hl 1 rfl) ?_
  refine lv_icmp_le (tgt := 52) hx hb dX6_heirOf_36 (by decide) (fun c1 => ?_) (fun c1 => ?_)
  · replace hf := it_t c1 hf
    exact hK52 x2 _ (lv_sub hl [0, 2] rfl) hf
  · replace hf := it_f c1 hf
    refine lv_iload_n hx hb dX6_heirOf_39 rfl (lv_at hl 2 rfl) ?_
    refine lv_aload_n hx hb dX6_heirOf_40 rfl (lv_at hl 0 rfl) ?_
    refine va_get (D := (dC, dI)) (ci := 6) (v := .int ((L.1 2))) (C := RX6) (T := TX6) (N := 7) hx hb hts in_X6_heirOf_X6 hown hK hP 0 rfl rfl 2 (by decide) (hts (.fieldLink RX6 46 "BackLoans$Will" "heirs" "I") (by decide +kernel)) (fun _ h9 => h9) rfl dX6_heirOf_41 ?_
    obtain ⟨hz2, hf⟩ := gz_e hf
    refine lv_idiv hx hb dX6_heirOf_44 hz2 ?_
    refine lv_topi (fun x2_45 ex2_45 => ?_)
    replace hf := lett_s ex2_45 hf
    refine lv_istore_n (lv' := [(2, .int (x2_45)), (0, .ref (a 0)), (1, .int (x1)), (3, .int (x3))]) hx hb dX6_heirOf_45 rfl hl (by decide) rfl (fun ls hl => ?_)
    obtain ⟨x3_46, ex3_46⟩ : ∃ y : Int32, y = (x3 + (-1)) := ⟨_, rfl⟩
    replace hf := lett_s ex3_46 hf
    refine lv_iinc (v := x3_46) (lv' := [(3, .int (x3_46)), (2, .int (x2_45)), (0, .ref (a 0)), (1, .int (x1))]) hx hb dX6_heirOf_46 hl (k := 3) rfl (by rw [ex3_46]; rfl) (by decide) rfl (fun ls hl => ?_)
    refine lv_goto (tgt := 34) hx hb dX6_heirOf_49 (by decide) ?_
    exact hK34 x2_45 x3_46 _ (lv_sub hl [2, 3, 1, 0] rfl) hf
def l_X6_heirOf_34 (x1 : Int32) (L : Wl) (K52 : Int32 → Option Int32) (n : Nat) (x2 : Int32) (x3 : Int32) : Option Int32 := itr (fun (k : Int32 × Int32 → Option Int32) (z : Int32 × Int32) => f_X6_heirOf_34 x1 z.1 z.2 L (fun x2 x3 => k (x2, x3)) K52) n (x2, x3)
set_option maxHeartbeats 4000000 in
set_option maxRecDepth 100000 in
theorem w_X6_heirOf_34 {p : Program} {l : Launch} {e : Env} {s : State} {m : MethodId} {args : Array Value} {below : List Frame} {meth : Method} {c : Code} {Q : State → Prop} {dC : Nat → ClassId} {dI : Nat → Nat → Nat} {cs : Nat → ClassId} {a : Nat → Nat} {res : Int32} (C : CallFix p m c cX6_heirOf 4 s args wsX6_heirOf RX6) (G : GE dC dI cs s) (hR : RPi p l e ({ frames := 0, cells := 0, slots := 0, locals := 0 }) s m args below meth c cX6_heirOf Q res) {L : Wl} (hP : va_P (dC, dI) vwCl (wW cs a L) s.heap) (x1 : Int32) (_ : Wl) {K52 : Int32 → Option Int32} (hK52 : ∀ (x2 : Int32) (ls : Array Slot), lv_has ls 4 [(0, .ref (a 0)), (2, .int (x2))] → K52 x2 = some res → W p l e ({ frames := 0, cells := 0, slots := 0, locals := 0 }) s m args below meth c s.heap [] 0 0 Q (F0 m 52 ls [])) : ∀ (n : Nat) (x2 : Int32) (x3 : Int32) (ls : Array Slot), lv_has ls 4 [(0, .ref (a 0)), (1, .int (x1)), (2, .int (x2)), (3, .int (x3))] → l_X6_heirOf_34 x1 L K52 n x2 x3 = some res → W p l e ({ frames := 0, cells := 0, slots := 0, locals := 0 }) s m args below meth c s.heap [] 0 0 Q (F0 m 34 ls []) := by
  intro n
  induction n with
  | zero => intro x2 x3 ls hl hf; exact absurd hf (by simp [l_X6_heirOf_34, itr])
  | succ n ih => intro x2 x3 ls hl hf; exact b_X6_heirOf_34 C G hR hP x1 x2 x3 L (K34 := fun x2 x3 => l_X6_heirOf_34 x1 L K52 n x2 x3) (fun x2 x3 ls hl hf => ih x2 x3 ls hl hf) hK52 ls hl hf
def f_X6_heirOf_52 (x2 : Int32) (L : Wl)  : Option Int32 :=
  gz ((L.1 2)) <|
  gi ((x2 - x2 / (L.1 2) * (L.1 2))) 3 <|
  some ((L.2 1) ((x2 - x2 / (L.1 2) * (L.1 2))).toNatClampNeg)
set_option maxHeartbeats 4000000 in
set_option maxRecDepth 100000 in
theorem b_X6_heirOf_52 {p : Program} {l : Launch} {e : Env} {s : State} {m : MethodId} {args : Array Value} {below : List Frame} {meth : Method} {c : Code} {Q : State → Prop} {dC : Nat → ClassId} {dI : Nat → Nat → Nat} {cs : Nat → ClassId} {a : Nat → Nat} {res : Int32} (C : CallFix p m c cX6_heirOf 4 s args wsX6_heirOf RX6) (G : GE dC dI cs s) (hR : RPi p l e ({ frames := 0, cells := 0, slots := 0, locals := 0 }) s m args below meth c cX6_heirOf Q res) {L : Wl} (hP : va_P (dC, dI) vwCl (wW cs a L) s.heap) (x2 : Int32) (_ : Wl)   (ls : Array Slot) (hl : lv_has ls 4 [(0, .ref (a 0)), (2, .int (x2))]) (hf : f_X6_heirOf_52 x2 L = some res) : W p l e ({ frames := 0, cells := 0, slots := 0, locals := 0 }) s m args below meth c s.heap [] 0 0 Q (F0 m 52 ls []) := by
  obtain ⟨hx, hb, hml, hown, hts⟩ := id C
  obtain ⟨hK, hN⟩ := id G
  unfold f_X6_heirOf_52 at hf
  refine lv_aload_n hx hb dX6_heirOf_52 rfl (lv_at hl 0 rfl) ?_
  refine va_get (D := (dC, dI)) (ci := 6) (v := .ref (a 2)) (C := RX6) (T := TX6) (N := 7) hx hb hts in_X6_heirOf_X6 hown hK hP 0 rfl rfl 5 (by decide) (hts (.fieldLink RX6 15 "BackLoans$Will" "heir" "[I") (by decide +kernel)) (fun _ h9 => h9) rfl dX6_heirOf_53 ?_
  refine lv_iload_n hx hb dX6_heirOf_56 rfl (lv_at hl 1 rfl) ?_
  refine lv_aload_n hx hb dX6_heirOf_57 rfl (lv_at hl 0 rfl) ?_
  refine va_get (D := (dC, dI)) (ci := 6) (v := .int ((L.1 2))) (C := RX6) (T := TX6) (N := 7) hx hb hts in_X6_heirOf_X6 hown hK hP 0 rfl rfl 2 (by decide) (hts (.fieldLink RX6 46 "BackLoans$Will" "heirs" "I") (by decide +kernel)) (fun _ h9 => h9) rfl dX6_heirOf_58 ?_
  obtain ⟨hz1, hf⟩ := gz_e hf
  refine lv_irem hx hb dX6_heirOf_61 hz1 ?_
  obtain ⟨hi2, hf⟩ := gi_e hf
  refine va_iald hx hb hK hP 2 0 rfl rfl hi2 dX6_heirOf_62 ?_
  exact hR _ _ _ dX6_heirOf_63 hf
def f_X6_heirOf (x1 : Int32) (L : Wl) : Option Int32 :=
  if x1 < 0 then (
    some (-1 : Int32)
  ) else (
    if (L.1 1) ≤ x1 then (
      some (-1 : Int32)
    ) else (
      if (1 : Int32) ≤ (L.1 2) then (
        lett ((L.1 1) - (1 : Int32)) fun x3_33 =>
        l_X6_heirOf_34 x1 L (fun x2 => f_X6_heirOf_52 x2 L) FU (L.1 3) x3_33
      ) else (
        some (-1 : Int32)
      )
    )
  )
set_option maxHeartbeats 4000000 in
set_option maxRecDepth 100000 in
theorem c_X6_heirOf (l : Launch) (dC : Nat → ClassId) (dI : Nat → Nat → Nat) (cs : Nat → ClassId) (a : Nat → Nat) (L : Wl) (x1 : Int32) (res : Int32) (hf : f_X6_heirOf x1 L = some res) : Met l yX6_heirOf wsX6_heirOf ({ frames := 0, cells := 0, slots := 0, locals := 0 }) (va_Pc [.ref (a 0), .int (x1)] (fun U => va_P (dC, dI) vwCl (wW cs a L) U.heap ∧ GE dC dI cs U)) (vp_Si (fun r => r = res)) 0 0 (fun _ => False) := by
  refine Met.ofW (cc := cX6_heirOf) (maxL := 4) (ret := (some .int)) (by decide) rfl ?_
  intro p e s m args below meth c s₁ B hml hv
  obtain ⟨rfl, hP, G⟩ := hv
  have hts := atoms_spec (ws := wsX6_heirOf) B.pre
  have hown : s.vm.findClass RX6 = some m.cls := findClass_of_methodNamed B.named
  have hlocks := B.notSynchronized
  have hx := B.exec
  have hb := B.bytes
  have hr := B.returns
  have C : CallFix p m c cX6_heirOf 4 s _ wsX6_heirOf RX6 := ⟨hx, hb, hml, hown, hts⟩
  obtain ⟨hK, hN⟩ := id G
  have hR : RPi p l e ({ frames := 0, cells := 0, slots := 0, locals := 0 }) s m ([.ref (a 0), .int (x1)] : List Value).toArray below meth c cX6_heirOf (MQ below (vp_Si (fun r => r = res)) ([.ref (a 0), .int (x1)] : List Value).toArray s 0 0 (fun _ => False)) res := fun pc ls r dd h => W.iret hx hb hr (fun t ht hW => ⟨r, rfl, Option.some.inj h, ht⟩) (fun q hq => by cases hq) dd
  have hl := lv_entry ([.ref (a 0), .int (x1)]) (n := 4) (Nat.le_of_ble_eq_true rfl)
  rw [lg_entry_eq]
  generalize (lg_sl ([.ref (a 0), .int (x1)]) ++ List.replicate (4 - (lg_sl ([.ref (a 0), .int (x1)])).length) Slot.unset).toArray = ls at hl ⊢
  have hl : lv_has ls 4 [(0, .ref (a 0)), (1, .int (x1))] := hl
  unfold f_X6_heirOf at hf
  refine lv_iload_n hx hb dX6_heirOf_0 rfl (lv_at hl 1 rfl) ?_
  refine lv_if_lt (tgt := 20) hx hb dX6_heirOf_1 (by decide) (fun c1 => ?_) (fun c1 => ?_)
  · replace hf := it_t c1 hf
    refine lv_iconst (v := -1) hx hb dX6_heirOf_20 (by decide) ?_
    exact hR _ _ _ dX6_heirOf_21 hf
  · replace hf := it_f c1 hf
    refine lv_iload_n hx hb dX6_heirOf_4 rfl (lv_at hl 1 rfl) ?_
    refine lv_aload_n hx hb dX6_heirOf_5 rfl (lv_at hl 0 rfl) ?_
    refine va_get (D := (dC, dI)) (ci := 6) (v := .int ((L.1 1))) (C := RX6) (T := TX6) (N := 7) hx hb hts in_X6_heirOf_X6 hown hK hP 0 rfl rfl 1 (by decide) (hts (.fieldLink RX6 43 "BackLoans$Will" "parts" "I") (by decide +kernel)) (fun _ h9 => h9) rfl dX6_heirOf_6 ?_
    refine lv_icmp_ge (tgt := 20) hx hb dX6_heirOf_9 (by decide) (fun c2 => ?_) (fun c2 => ?_)
    · replace hf := it_t c2 hf
      refine lv_iconst (v := -1) hx hb dX6_heirOf_20 (by decide) ?_
      exact hR _ _ _ dX6_heirOf_21 hf
    · replace hf := it_f c2 hf
      refine lv_aload_n hx hb dX6_heirOf_12 rfl (lv_at hl 0 rfl) ?_
      refine va_get (D := (dC, dI)) (ci := 6) (v := .int ((L.1 2))) (C := RX6) (T := TX6) (N := 7) hx hb hts in_X6_heirOf_X6 hown hK hP 0 rfl rfl 2 (by decide) (hts (.fieldLink RX6 46 "BackLoans$Will" "heirs" "I") (by decide +kernel)) (fun _ h9 => h9) rfl dX6_heirOf_13 ?_
      refine lv_iconst (v := 1) hx hb dX6_heirOf_16 (by decide) ?_
      refine lv_icmp_ge (tgt := 22) hx hb dX6_heirOf_17 (by decide) (fun c3 => ?_) (fun c3 => ?_)
      · replace hf := it_t c3 hf
        refine lv_aload_n hx hb dX6_heirOf_22 rfl (lv_at hl 0 rfl) ?_
        refine va_get (D := (dC, dI)) (ci := 6) (v := .int ((L.1 3))) (C := RX6) (T := TX6) (N := 7) hx hb hts in_X6_heirOf_X6 hown hK hP 0 rfl rfl 3 (by decide) (hts (.fieldLink RX6 32 "BackLoans$Will" "way" "I") (by decide +kernel)) (fun _ h9 => h9) rfl dX6_heirOf_23 ?_
        refine lv_istore_n (lv' := [(2, .int ((L.1 3))), (0, .ref (a 0)), (1, .int (x1))]) hx hb dX6_heirOf_26 rfl hl (by decide) rfl (fun ls hl => ?_)
        refine lv_aload_n hx hb dX6_heirOf_27 rfl (lv_at hl 1 rfl) ?_
        refine va_get (D := (dC, dI)) (ci := 6) (v := .int ((L.1 1))) (C := RX6) (T := TX6) (N := 7) hx hb hts in_X6_heirOf_X6 hown hK hP 0 rfl rfl 1 (by decide) (hts (.fieldLink RX6 43 "BackLoans$Will" "parts" "I") (by decide +kernel)) (fun _ h9 => h9) rfl dX6_heirOf_28 ?_
        refine lv_iconst (v := 1) hx hb dX6_heirOf_31 (by decide) ?_
        refine lv_isub hx hb dX6_heirOf_32 ?_
        refine lv_topi (fun x3_33 ex3_33 => ?_)
        replace hf := lett_s ex3_33 hf
        refine lv_istore_n (lv' := [(3, .int (x3_33)), (2, .int ((L.1 3))), (0, .ref (a 0)), (1, .int (x1))]) hx hb dX6_heirOf_33 rfl hl (by decide) rfl (fun ls hl => ?_)
        exact w_X6_heirOf_34 C G hR hP x1 L (fun x2 ls hl hf => b_X6_heirOf_52 C G hR hP x2 L _ hl hf) FU (L.1 3) x3_33 _ (lv_sub hl [2, 3, 1, 0] rfl) hf
      · replace hf := it_f c3 hf
        refine lv_iconst (v := -1) hx hb dX6_heirOf_20 (by decide) ?_
        exact hR _ _ _ dX6_heirOf_21 hf

theorem in_X1_lookAhead_X1 : ∀ w ∈ wsX10, w ∈ wsX1_lookAhead := by decide +kernel
def f_X1_lookAhead_10 (x2 : Int32) (x3 : Int32) (N : Tw) (T : Tw) (K10 : Int32 → Tw → Option Tw) (K29 : Tw → Option Tw) : Option Tw :=
  if x2 ≤ x3 then (
    K29 N
  ) else (
    bn (f_X5_liveMonth (0 : Int32) N) fun r20 =>
    lett (x3 + 1) fun x3_23 =>
    K10 x3_23 r20
  )
set_option maxHeartbeats 4000000 in
set_option maxRecDepth 100000 in
theorem b_X1_lookAhead_10 {p : Program} {l : Launch} {e : Env} {s : State} {m : MethodId} {args : Array Value} {below : List Frame} {meth : Method} {c : Code} {Q : State → Prop} {dC : Nat → ClassId} {dI : Nat → Nat → Nat} {cs : Nat → ClassId} {A : Nat → Prop} {a : Nat → Nat} {b : Nat → Nat} {d : Nat → Nat} {res : Tw} (C : CallFix p m c cX1_lookAhead 4 s args wsX1_lookAhead RX1) (G : GE dC dI cs s) (hA : ∀ q : Nat, s.heap.size ≤ q → A q) {T : Tw} (hR : RTr p l e ({ frames := 4, cells := 0, slots := 0, locals := 88 }) s m args below meth c cX1_lookAhead Q (dC, dI) A (fun u : Tw => (wF (a 0) (b 0) ++ wT cs b u ++ wT cs d T)) (b 0) res) (x2 : Int32) (x3 : Int32) (N : Tw) (_ : Tw) {K10 : Int32 → Tw → Option Tw} {K29 : Tw → Option Tw} (hK10 : ∀ (x3 : Int32) (N : Tw) (H : Heap) (locs : List Loc) (ls : Array Slot), lv_has ls 4 [(0, .ref (a 0)), (2, .int (x2)), (3, .int (x3))] → va_P (dC, dI) vwCl (wF (a 0) (b 0) ++ wT cs b N ++ wT cs d T) H → va_D A (wF (a 0) (b 0) ++ wT cs b N ++ wT cs d T) → va_S A s.heap H locs → K10 x3 N = some res → W p l e ({ frames := 4, cells := 0, slots := 0, locals := 88 }) s m args below meth c H locs 0 0 Q (F0 m 10 ls [])) (hK29 : ∀ (N : Tw) (H : Heap) (locs : List Loc) (ls : Array Slot), lv_has ls 4 [(0, .ref (a 0))] → va_P (dC, dI) vwCl (wF (a 0) (b 0) ++ wT cs b N ++ wT cs d T) H → va_D A (wF (a 0) (b 0) ++ wT cs b N ++ wT cs d T) → va_S A s.heap H locs → K29 N = some res → W p l e ({ frames := 4, cells := 0, slots := 0, locals := 88 }) s m args below meth c H locs 0 0 Q (F0 m 29 ls [])) (H : Heap) (locs : List Loc) (ls : Array Slot) (hl : lv_has ls 4 [(0, .ref (a 0)), (2, .int (x2)), (3, .int (x3))]) (hP : va_P (dC, dI) vwCl (wF (a 0) (b 0) ++ wT cs b N ++ wT cs d T) H) (hD : va_D A (wF (a 0) (b 0) ++ wT cs b N ++ wT cs d T)) (hS : va_S A s.heap H locs) (hf : f_X1_lookAhead_10 x2 x3 N T K10 K29 = some res) : W p l e ({ frames := 4, cells := 0, slots := 0, locals := 88 }) s m args below meth c H locs 0 0 Q (F0 m 10 ls []) := by
  obtain ⟨hx, hb, hml, hown, hts⟩ := id C
  obtain ⟨hK, hN⟩ := id G
  unfold f_X1_lookAhead_10 at hf
  refine lv_iload_n hx hb dX1_lookAhead_10 rfl (lv_at hl 2 rfl) ?_
  refine lv_iload_n hx hb dX1_lookAhead_11 rfl (lv_at hl 1 rfl) ?_
  refine lv_icmp_ge (tgt := 29) hx hb dX1_lookAhead_12 (by decide) (fun c1 => ?_) (fun c1 => ?_)
  · replace hf := it_t c1 hf
    exact hK29 N _ _ _ (lv_sub hl [0] rfl) hP hD hS hf
  · replace hf := it_f c1 hf
    refine lv_aload_n hx hb dX1_lookAhead_15 rfl (lv_at hl 0 rfl) ?_
    refine va_get (D := (dC, dI)) (ci := 1) (v := .ref (b 0)) (C := RX1) (T := TX1) (N := 1) hx hb hts in_X1_lookAhead_X1 hown hK hP 0 rfl rfl 0 (by decide) (hts (.fieldLink RX1 12 "BackLoans$Foresight" "trial" "LBackLoans$Town;") (by decide +kernel)) (fun _ h9 => h9) rfl dX1_lookAhead_16 ?_
    refine lv_iconst (v := 0) hx hb dX1_lookAhead_19 (by decide) ?_
    obtain ⟨r20, hr20, hf⟩ := bn_e hf
    have hPc := hP.sub (ws' := (wT cs b N)) [1, 2, 3, 4, 5, 6, 7, 8, 9, 10, 11] rfl
    have hDc := hD.sub (ws' := (wT cs b N)) [1, 2, 3, 4, 5, 6, 7, 8, 9, 10, 11] (by decide) rfl
    have hFc := va_free (wc := (wT cs b N)) hD hS hA [1, 2, 3, 4, 5, 6, 7, 8, 9, 10, 11] rfl
    refine va_callv (va_runV (As := [.int ((0 : Int32))]) (rest := []) C (c_X5_liveMonth l dC dI cs b H.size N (0 : Int32) r20 hr20) (cwV 1 hts gX1_lookAhead_X5_liveMonth rfl rfl rfl (by decide +kernel) ⟨Nat.le_of_ble_eq_true rfl, Nat.le_of_ble_eq_true rfl⟩) ⟨(fun a U g mk q => ⟨q.1, q.2.1, q.2.2.1, GE.calling q.2.2.2.1, q.2.2.2.2⟩), va_recv hK hPc (ci := 5) (q0 := 0) rfl rfl, (fun U hU hW => ⟨rfl, by rw [hU], by rw [hU]; exact hPc, GE.warm hW G, hDc.weaken (fun _ _ _ _ => trivial)⟩)⟩ rfl rfl hl.1 rfl (lv_room (Nat.le_of_ble_eq_true rfl)) dX1_lookAhead_20 ⟨Nat.le_of_ble_eq_true rfl, Nat.le_of_ble_eq_true rfl⟩) hS (fun q _ h => hFc q h) hFc (fun u t H1 locs ht hvm hw hB hz1 hk1 hS => ?_)
    obtain rfl := hw.symm
    obtain ⟨hP1, hD1⟩ := hB
    rw [ht] at hP1
    obtain ⟨hP, hD⟩ := va_join (wr := [0, 12, 13, 14, 15, 16, 17, 18, 19, 20, 21, 22].filterMap (fun i => ((wF (a 0) (b 0) ++ wT cs b N ++ wT cs d T))[i]?)) (w1 := (wT cs b r20)) hP hD [1, 2, 3, 4, 5, 6, 7, 8, 9, 10, 11] [0, 12, 13, 14, 15, 16, 17, 18, 19, 20, 21, 22] rfl rfl (by decide) (by decide) hk1 hFc hP1 hD1
    generalize H1 = H at hP hS ⊢
    have hP := hP.sub (ws' := (wF (a 0) (b 0) ++ wT cs b r20 ++ wT cs d T)) [0, 12, 13, 14, 15, 16, 17, 18, 19, 20, 21, 22, 1, 2, 3, 4, 5, 6, 7, 8, 9, 10, 11] rfl
    have hD := hD.sub (ws' := (wF (a 0) (b 0) ++ wT cs b r20 ++ wT cs d T)) [0, 12, 13, 14, 15, 16, 17, 18, 19, 20, 21, 22, 1, 2, 3, 4, 5, 6, 7, 8, 9, 10, 11] (by decide) rfl
    obtain ⟨x3_23, ex3_23⟩ : ∃ y : Int32, y = (x3 + 1) := ⟨_, rfl⟩
    replace hf := lett_s ex3_23 hf
    refine lv_iinc (v := x3_23) (lv' := [(3, .int (x3_23)), (0, .ref (a 0)), (2, .int (x2))]) hx hb dX1_lookAhead_23 hl (k := 2) rfl (by rw [ex3_23]; rfl) (by decide) rfl (fun ls hl => ?_)
    refine lv_goto (tgt := 10) hx hb dX1_lookAhead_26 (by decide) ?_
    exact hK10 x3_23 r20 _ _ _ (lv_sub hl [1, 2, 0] rfl) hP hD hS hf
def l_X1_lookAhead_10 (x2 : Int32) (T : Tw) (K29 : Tw → Option Tw) (n : Nat) (x3 : Int32) (N : Tw) : Option Tw := itr (fun (k : Int32 × Tw → Option Tw) (z : Int32 × Tw) => f_X1_lookAhead_10 x2 z.1 z.2 T (fun x3 N => k (x3, N)) K29) n (x3, N)
set_option maxHeartbeats 4000000 in
set_option maxRecDepth 100000 in
theorem w_X1_lookAhead_10 {p : Program} {l : Launch} {e : Env} {s : State} {m : MethodId} {args : Array Value} {below : List Frame} {meth : Method} {c : Code} {Q : State → Prop} {dC : Nat → ClassId} {dI : Nat → Nat → Nat} {cs : Nat → ClassId} {A : Nat → Prop} {a : Nat → Nat} {b : Nat → Nat} {d : Nat → Nat} {res : Tw} (C : CallFix p m c cX1_lookAhead 4 s args wsX1_lookAhead RX1) (G : GE dC dI cs s) (hA : ∀ q : Nat, s.heap.size ≤ q → A q) {T : Tw} (hR : RTr p l e ({ frames := 4, cells := 0, slots := 0, locals := 88 }) s m args below meth c cX1_lookAhead Q (dC, dI) A (fun u : Tw => (wF (a 0) (b 0) ++ wT cs b u ++ wT cs d T)) (b 0) res) (x2 : Int32) (_ : Tw) {K29 : Tw → Option Tw} (hK29 : ∀ (N : Tw) (H : Heap) (locs : List Loc) (ls : Array Slot), lv_has ls 4 [(0, .ref (a 0))] → va_P (dC, dI) vwCl (wF (a 0) (b 0) ++ wT cs b N ++ wT cs d T) H → va_D A (wF (a 0) (b 0) ++ wT cs b N ++ wT cs d T) → va_S A s.heap H locs → K29 N = some res → W p l e ({ frames := 4, cells := 0, slots := 0, locals := 88 }) s m args below meth c H locs 0 0 Q (F0 m 29 ls [])) : ∀ (n : Nat) (x3 : Int32) (N : Tw) (H : Heap) (locs : List Loc) (ls : Array Slot), lv_has ls 4 [(0, .ref (a 0)), (2, .int (x2)), (3, .int (x3))] → va_P (dC, dI) vwCl (wF (a 0) (b 0) ++ wT cs b N ++ wT cs d T) H → va_D A (wF (a 0) (b 0) ++ wT cs b N ++ wT cs d T) → va_S A s.heap H locs → l_X1_lookAhead_10 x2 T K29 n x3 N = some res → W p l e ({ frames := 4, cells := 0, slots := 0, locals := 88 }) s m args below meth c H locs 0 0 Q (F0 m 10 ls []) := by
  intro n
  induction n with
  | zero => intro x3 N H locs ls hl hP hD hS hf; exact absurd hf (by simp [l_X1_lookAhead_10, itr])
  | succ n ih => intro x3 N H locs ls hl hP hD hS hf; exact b_X1_lookAhead_10 C G hA hR x2 x3 N T (K10 := fun x3 N => l_X1_lookAhead_10 x2 T K29 n x3 N) (fun x3 N H locs ls hl hP hD hS hf => ih x3 N H locs ls hl hP hD hS hf) hK29 H locs ls hl hP hD hS hf
def f_X1_lookAhead_29 (N : Tw) (T : Tw)  : Option Tw :=
  some N
set_option maxHeartbeats 4000000 in
set_option maxRecDepth 100000 in
theorem b_X1_lookAhead_29 {p : Program} {l : Launch} {e : Env} {s : State} {m : MethodId} {args : Array Value} {below : List Frame} {meth : Method} {c : Code} {Q : State → Prop} {dC : Nat → ClassId} {dI : Nat → Nat → Nat} {cs : Nat → ClassId} {A : Nat → Prop} {a : Nat → Nat} {b : Nat → Nat} {d : Nat → Nat} {res : Tw} (C : CallFix p m c cX1_lookAhead 4 s args wsX1_lookAhead RX1) (G : GE dC dI cs s) (hA : ∀ q : Nat, s.heap.size ≤ q → A q) {T : Tw} (hR : RTr p l e ({ frames := 4, cells := 0, slots := 0, locals := 88 }) s m args below meth c cX1_lookAhead Q (dC, dI) A (fun u : Tw => (wF (a 0) (b 0) ++ wT cs b u ++ wT cs d T)) (b 0) res) (N : Tw) (_ : Tw)   (H : Heap) (locs : List Loc) (ls : Array Slot) (hl : lv_has ls 4 [(0, .ref (a 0))]) (hP : va_P (dC, dI) vwCl (wF (a 0) (b 0) ++ wT cs b N ++ wT cs d T) H) (hD : va_D A (wF (a 0) (b 0) ++ wT cs b N ++ wT cs d T)) (hS : va_S A s.heap H locs) (hf : f_X1_lookAhead_29 N T = some res) : W p l e ({ frames := 4, cells := 0, slots := 0, locals := 88 }) s m args below meth c H locs 0 0 Q (F0 m 29 ls []) := by
  obtain ⟨hx, hb, hml, hown, hts⟩ := id C
  obtain ⟨hK, hN⟩ := id G
  unfold f_X1_lookAhead_29 at hf
  refine lv_aload_n hx hb dX1_lookAhead_29 rfl (lv_at hl 0 rfl) ?_
  refine va_get (D := (dC, dI)) (ci := 1) (v := .ref (b 0)) (C := RX1) (T := TX1) (N := 1) hx hb hts in_X1_lookAhead_X1 hown hK hP 0 rfl rfl 0 (by decide) (hts (.fieldLink RX1 12 "BackLoans$Foresight" "trial" "LBackLoans$Town;") (by decide +kernel)) (fun _ h9 => h9) rfl dX1_lookAhead_30 ?_
  exact hR _ _ _ _ _ dX1_lookAhead_33 hf hP hD hS
def f_X1_lookAhead (x2 : Int32) (N : Tw) (T : Tw) : Option Tw :=
  bn (f_X5_copyFrom N T) fun r5 =>
  lett (0 : Int32) fun x3_9 =>
  l_X1_lookAhead_10 x2 T (fun Nz => f_X1_lookAhead_29 Nz T) FU x3_9 r5
set_option maxHeartbeats 4000000 in
set_option maxRecDepth 100000 in
theorem c_X1_lookAhead (l : Launch) (dC : Nat → ClassId) (dI : Nat → Nat → Nat) (cs : Nat → ClassId) (a : Nat → Nat) (b : Nat → Nat) (d : Nat → Nat) (sz : Nat) (N : Tw) (T : Tw) (x2 : Int32) (res : Tw) (hf : f_X1_lookAhead x2 N T = some res) : Met l yX1_lookAhead wsX1_lookAhead ({ frames := 4, cells := 0, slots := 0, locals := 88 }) (va_Pc [.ref (a 0), .ref (d 0), .int (x2)] (fun U => U.heap.size = sz ∧ va_P (dC, dI) vwCl (wF (a 0) (b 0) ++ wT cs b N ++ wT cs d T) U.heap ∧ GE dC dI cs U ∧ va_D (fun _ => True) (wF (a 0) (b 0) ++ wT cs b N ++ wT cs d T))) (va_Qr (fun u : Tw => u = res) (fun u q t => q = (b 0) ∧ va_P (dC, dI) vwCl ((fun u : Tw => (wF (a 0) (b 0) ++ wT cs b u ++ wT cs d T)) u) t.heap ∧ va_D (va_A (wF (a 0) (b 0) ++ wT cs b N ++ wT cs d T) sz) ((fun u : Tw => (wF (a 0) (b 0) ++ wT cs b u ++ wT cs d T)) u)) (va_A (wF (a 0) (b 0) ++ wT cs b N ++ wT cs d T) sz)) 0 0 (va_A (wF (a 0) (b 0) ++ wT cs b N ++ wT cs d T) sz) := by
  refine Met.ofW (cc := cX1_lookAhead) (maxL := 4) (ret := (some (.object "BackLoans$Town"))) (by decide) rfl ?_
  intro p e s m args below meth c s₁ B hml hv
  obtain ⟨rfl, hsz, hP, G, hD0⟩ := hv
  have hts := atoms_spec (ws := wsX1_lookAhead) B.pre
  have hown : s.vm.findClass RX1 = some m.cls := findClass_of_methodNamed B.named
  have hlocks := B.notSynchronized
  have hx := B.exec
  have hb := B.bytes
  have hr := B.returns
  have C : CallFix p m c cX1_lookAhead 4 s _ wsX1_lookAhead RX1 := ⟨hx, hb, hml, hown, hts⟩
  obtain ⟨hK, hN⟩ := id G
  subst hsz
  have hD := hD0.self (sz := s.heap.size)
  generalize hAe : va_A (wF (a 0) (b 0) ++ wT cs b N ++ wT cs d T) s.heap.size = A at hD ⊢
  have hA : ∀ q : Nat, s.heap.size ≤ q → A q := fun q h => by rw [← hAe]; exact Or.inr h
  have hS : va_S A s.heap s.heap [] := va_S.rf
  have hR : RTr p l e ({ frames := 4, cells := 0, slots := 0, locals := 88 }) s m ([.ref (a 0), .ref (d 0), .int (x2)] : List Value).toArray below meth c cX1_lookAhead (MQ below (va_Qr (fun u : Tw => u = res) (fun u q t => q = (b 0) ∧ va_P (dC, dI) vwCl ((fun u : Tw => (wF (a 0) (b 0) ++ wT cs b u ++ wT cs d T)) u) t.heap ∧ va_D A ((fun u : Tw => (wF (a 0) (b 0) ++ wT cs b u ++ wT cs d T)) u)) A) ([.ref (a 0), .ref (d 0), .int (x2)] : List Value).toArray s 0 0 A) (dC, dI) A (fun u : Tw => (wF (a 0) (b 0) ++ wT cs b u ++ wT cs d T)) (b 0) res := fun H locs pc ls u dd h hP hD hS => W.aret hx hb hr (Or.inl ⟨_, rfl⟩) (Or.inr ⟨_, rfl⟩) (fun t ht hW => ⟨⟨u, _, rfl, by cases h; rfl, rfl, by rw [ht]; exact hP, hD⟩, hS.F ht⟩) hS.2.2 dd
  have hl := lv_entry ([.ref (a 0), .ref (d 0), .int (x2)]) (n := 4) (Nat.le_of_ble_eq_true rfl)
  rw [lg_entry_eq]
  generalize (lg_sl ([.ref (a 0), .ref (d 0), .int (x2)]) ++ List.replicate (4 - (lg_sl ([.ref (a 0), .ref (d 0), .int (x2)])).length) Slot.unset).toArray = ls at hl ⊢
  have hl : lv_has ls 4 [(0, .ref (a 0)), (1, .ref (d 0)), (2, .int (x2))] := hl
  unfold f_X1_lookAhead at hf
  refine lv_aload_n hx hb dX1_lookAhead_0 rfl (lv_at hl 0 rfl) ?_
  refine va_get (D := (dC, dI)) (ci := 1) (v := .ref (b 0)) (C := RX1) (T := TX1) (N := 1) hx hb hts in_X1_lookAhead_X1 hown hK hP 0 rfl rfl 0 (by decide) (hts (.fieldLink RX1 12 "BackLoans$Foresight" "trial" "LBackLoans$Town;") (by decide +kernel)) (fun _ h9 => h9) rfl dX1_lookAhead_1 ?_
  refine lv_aload_n hx hb dX1_lookAhead_4 rfl (lv_at hl 1 rfl) ?_
  obtain ⟨r5, hr5, hf⟩ := bn_e hf
  have hPc := hP.sub (ws' := (wT cs b N ++ wT cs d T)) [1, 2, 3, 4, 5, 6, 7, 8, 9, 10, 11, 12, 13, 14, 15, 16, 17, 18, 19, 20, 21, 22] rfl
  have hDc := hD.sub (ws' := (wT cs b N ++ wT cs d T)) [1, 2, 3, 4, 5, 6, 7, 8, 9, 10, 11, 12, 13, 14, 15, 16, 17, 18, 19, 20, 21, 22] (by decide) rfl
  have hFc := va_free (wc := (wT cs b N ++ wT cs d T)) hD hS hA [1, 2, 3, 4, 5, 6, 7, 8, 9, 10, 11, 12, 13, 14, 15, 16, 17, 18, 19, 20, 21, 22] rfl
  refine va_callv (va_runV (As := [.ref (d 0)]) (rest := []) C (c_X5_copyFrom l dC dI cs b d s.heap.size N T r5 hr5) (cwV 1 hts gX1_lookAhead_X5_copyFrom rfl rfl rfl (by decide +kernel) ⟨Nat.le_of_ble_eq_true rfl, Nat.le_of_ble_eq_true rfl⟩) ⟨(fun a U g mk q => ⟨q.1, q.2.1, q.2.2.1, GE.calling q.2.2.2.1, q.2.2.2.2⟩), va_recv hK hPc (ci := 5) (q0 := 0) rfl rfl, (fun U hU hW => ⟨rfl, by rw [hU], by rw [hU]; exact hPc, GE.warm hW G, hDc.weaken (fun _ _ _ _ => trivial)⟩)⟩ rfl rfl hl.1 rfl (lv_room (Nat.le_of_ble_eq_true rfl)) dX1_lookAhead_5 ⟨Nat.le_of_ble_eq_true rfl, Nat.le_of_ble_eq_true rfl⟩) hS (fun q _ h => hFc q h) hFc (fun u t H1 locs ht hvm hw hB hz1 hk1 hS => ?_)
  obtain rfl := hw.symm
  obtain ⟨hP1, hD1⟩ := hB
  rw [ht] at hP1
  obtain ⟨hP, hD⟩ := va_join (wr := [0].filterMap (fun i => ((wF (a 0) (b 0) ++ wT cs b N ++ wT cs d T))[i]?)) (w1 := (wT cs b r5 ++ wT cs d T)) hP hD [1, 2, 3, 4, 5, 6, 7, 8, 9, 10, 11, 12, 13, 14, 15, 16, 17, 18, 19, 20, 21, 22] [0] rfl rfl (by decide) (by decide) hk1 hFc hP1 hD1
  generalize H1 = H at hP hS ⊢
  have hP := hP.sub (ws' := (wF (a 0) (b 0) ++ wT cs b r5 ++ wT cs d T)) [0, 1, 2, 3, 4, 5, 6, 7, 8, 9, 10, 11, 12, 13, 14, 15, 16, 17, 18, 19, 20, 21, 22] rfl
  have hD := hD.sub (ws' := (wF (a 0) (b 0) ++ wT cs b r5 ++ wT cs d T)) [0, 1, 2, 3, 4, 5, 6, 7, 8, 9, 10, 11, 12, 13, 14, 15, 16, 17, 18, 19, 20, 21, 22] (by decide) rfl
  refine lv_iconst (v := 0) hx hb dX1_lookAhead_8 (by decide) ?_
  refine lv_topi (fun x3_9 ex3_9 => ?_)
  replace hf := lett_s ex3_9 hf
  refine lv_istore_n (lv' := [(3, .int (x3_9)), (0, .ref (a 0)), (1, .ref (d 0)), (2, .int (x2))]) hx hb dX1_lookAhead_9 rfl hl (by decide) rfl (fun ls hl => ?_)
  exact w_X1_lookAhead_10 C G hA hR x2 T (fun Nz H locs ls hl hP hD hS hf => b_X1_lookAhead_29 C G hA hR Nz T _ _ _ hl hP hD hS hf) FU x3_9 r5 _ _ _ (lv_sub hl [1, 3, 0] rfl) hP hD hS hf

theorem in_X1_firstLack_X1 : ∀ w ∈ wsX10, w ∈ wsX1_firstLack := by decide +kernel
theorem in_X1_firstLack_X5 : ∀ w ∈ wsX50, w ∈ wsX1_firstLack := by decide +kernel
def f_X1_firstLack_19 (x3 : Int32) (x4 : Int32) (N : Tw) (T : Tw) (K19 : Int32 → Tw → Option (Int32 × Tw)) : Option (Int32 × Tw) :=
  if x3 ≤ x4 then (
    some ((-1 : Int32), N)
  ) else (
    bn (f_X5_liveMonth (0 : Int32) N) fun r30 =>
    if (r30.1 3) ≤ (T.1 3) then (
      lett (x4 + 1) fun x4_50 =>
      K19 x4_50 r30
    ) else (
      some (x4, r30)
    )
  )
set_option maxHeartbeats 4000000 in
set_option maxRecDepth 100000 in
theorem b_X1_firstLack_19 {p : Program} {l : Launch} {e : Env} {s : State} {m : MethodId} {args : Array Value} {below : List Frame} {meth : Method} {c : Code} {Q : State → Prop} {dC : Nat → ClassId} {dI : Nat → Nat → Nat} {cs : Nat → ClassId} {A : Nat → Prop} {a : Nat → Nat} {b : Nat → Nat} {d : Nat → Nat} {res : Int32 × Tw} (C : CallFix p m c cX1_firstLack 5 s args wsX1_firstLack RX1) (G : GE dC dI cs s) (hA : ∀ q : Nat, s.heap.size ≤ q → A q) {T : Tw} (hR : RTi p l e ({ frames := 4, cells := 0, slots := 0, locals := 88 }) s m args below meth c cX1_firstLack Q (dC, dI) A (fun u : Tw => (wF (a 0) (b 0) ++ wT cs b u ++ wT cs d T)) res) (x3 : Int32) (x4 : Int32) (N : Tw) (_ : Tw) {K19 : Int32 → Tw → Option (Int32 × Tw)} (hK19 : ∀ (x4 : Int32) (N : Tw) (H : Heap) (locs : List Loc) (ls : Array Slot), lv_has ls 5 [(0, .ref (a 0)), (1, .ref (d 0)), (3, .int (x3)), (4, .int (x4))] → va_P (dC, dI) vwCl (wF (a 0) (b 0) ++ wT cs b N ++ wT cs d T) H → va_D A (wF (a 0) (b 0) ++ wT cs b N ++ wT cs d T) → va_S A s.heap H locs → K19 x4 N = some res → W p l e ({ frames := 4, cells := 0, slots := 0, locals := 88 }) s m args below meth c H locs 0 0 Q (F0 m 19 ls [])) (H : Heap) (locs : List Loc) (ls : Array Slot) (hl : lv_has ls 5 [(0, .ref (a 0)), (1, .ref (d 0)), (3, .int (x3)), (4, .int (x4))]) (hP : va_P (dC, dI) vwCl (wF (a 0) (b 0) ++ wT cs b N ++ wT cs d T) H) (hD : va_D A (wF (a 0) (b 0) ++ wT cs b N ++ wT cs d T)) (hS : va_S A s.heap H locs) (hf : f_X1_firstLack_19 x3 x4 N T K19 = some res) : W p l e ({ frames := 4, cells := 0, slots := 0, locals := 88 }) s m args below meth c H locs 0 0 Q (F0 m 19 ls []) := by
  obtain ⟨hx, hb, hml, hown, hts⟩ := id C
  obtain ⟨hK, hN⟩ := id G
  unfold f_X1_firstLack_19 at hf
  refine lv_iload hx hb dX1_firstLack_19 (lv_at hl 3 rfl) ?_
  refine lv_iload_n hx hb dX1_firstLack_21 rfl (lv_at hl 2 rfl) ?_
  refine lv_icmp_ge (tgt := 56) hx hb dX1_firstLack_22 (by decide) (fun c1 => ?_) (fun c1 => ?_)
  · replace hf := it_t c1 hf
    refine lv_iconst (v := -1) hx hb dX1_firstLack_56 (by decide) ?_
    exact hR _ _ _ _ _ _ dX1_firstLack_57 hf hP hD hS
  · replace hf := it_f c1 hf
    refine lv_aload_n hx hb dX1_firstLack_25 rfl (lv_at hl 0 rfl) ?_
    refine va_get (D := (dC, dI)) (ci := 1) (v := .ref (b 0)) (C := RX1) (T := TX1) (N := 1) hx hb hts in_X1_firstLack_X1 hown hK hP 0 rfl rfl 0 (by decide) (hts (.fieldLink RX1 12 "BackLoans$Foresight" "trial" "LBackLoans$Town;") (by decide +kernel)) (fun _ h9 => h9) rfl dX1_firstLack_26 ?_
    refine lv_iconst (v := 0) hx hb dX1_firstLack_29 (by decide) ?_
    obtain ⟨r30, hr30, hf⟩ := bn_e hf
    have hPc := hP.sub (ws' := (wT cs b N)) [1, 2, 3, 4, 5, 6, 7, 8, 9, 10, 11] rfl
    have hDc := hD.sub (ws' := (wT cs b N)) [1, 2, 3, 4, 5, 6, 7, 8, 9, 10, 11] (by decide) rfl
    have hFc := va_free (wc := (wT cs b N)) hD hS hA [1, 2, 3, 4, 5, 6, 7, 8, 9, 10, 11] rfl
    refine va_callv (va_runV (As := [.int ((0 : Int32))]) (rest := []) C (c_X5_liveMonth l dC dI cs b H.size N (0 : Int32) r30 hr30) (cwV 1 hts gX1_firstLack_X5_liveMonth rfl rfl rfl (by decide +kernel) ⟨Nat.le_of_ble_eq_true rfl, Nat.le_of_ble_eq_true rfl⟩) ⟨(fun a U g mk q => ⟨q.1, q.2.1, q.2.2.1, GE.calling q.2.2.2.1, q.2.2.2.2⟩), va_recv hK hPc (ci := 5) (q0 := 0) rfl rfl, (fun U hU hW => ⟨rfl, by rw [hU], by rw [hU]; exact hPc, GE.warm hW G, hDc.weaken (fun _ _ _ _ => trivial)⟩)⟩ rfl rfl hl.1 rfl (lv_room (Nat.le_of_ble_eq_true rfl)) dX1_firstLack_30 ⟨Nat.le_of_ble_eq_true rfl, Nat.le_of_ble_eq_true rfl⟩) hS (fun q _ h => hFc q h) hFc (fun u t H1 locs ht hvm hw hB hz1 hk1 hS => ?_)
    obtain rfl := hw.symm
    obtain ⟨hP1, hD1⟩ := hB
    rw [ht] at hP1
    obtain ⟨hP, hD⟩ := va_join (wr := [0, 12, 13, 14, 15, 16, 17, 18, 19, 20, 21, 22].filterMap (fun i => ((wF (a 0) (b 0) ++ wT cs b N ++ wT cs d T))[i]?)) (w1 := (wT cs b r30)) hP hD [1, 2, 3, 4, 5, 6, 7, 8, 9, 10, 11] [0, 12, 13, 14, 15, 16, 17, 18, 19, 20, 21, 22] rfl rfl (by decide) (by decide) hk1 hFc hP1 hD1
    generalize H1 = H at hP hS ⊢
    have hP := hP.sub (ws' := (wF (a 0) (b 0) ++ wT cs b r30 ++ wT cs d T)) [0, 12, 13, 14, 15, 16, 17, 18, 19, 20, 21, 22, 1, 2, 3, 4, 5, 6, 7, 8, 9, 10, 11] rfl
    have hD := hD.sub (ws' := (wF (a 0) (b 0) ++ wT cs b r30 ++ wT cs d T)) [0, 12, 13, 14, 15, 16, 17, 18, 19, 20, 21, 22, 1, 2, 3, 4, 5, 6, 7, 8, 9, 10, 11] (by decide) rfl
    refine lv_aload_n hx hb dX1_firstLack_33 rfl (lv_at hl 0 rfl) ?_
    refine va_get (D := (dC, dI)) (ci := 1) (v := .ref (b 0)) (C := RX1) (T := TX1) (N := 1) hx hb hts in_X1_firstLack_X1 hown hK hP 0 rfl rfl 0 (by decide) (hts (.fieldLink RX1 12 "BackLoans$Foresight" "trial" "LBackLoans$Town;") (by decide +kernel)) (fun _ h9 => h9) rfl dX1_firstLack_34 ?_
    refine va_get (D := (dC, dI)) (ci := 5) (v := .int ((r30.1 3))) (C := RX5) (T := TX5) (N := 17) hx hb hts in_X1_firstLack_X5 hown hK hP 1 rfl rfl 3 (by decide) (hts (.fieldLink RX1 30 "BackLoans$Town" "lacks" "I") (by decide +kernel)) (fun _ h9 => h9) rfl dX1_firstLack_37 ?_
    refine lv_aload_n hx hb dX1_firstLack_40 rfl (lv_at hl 1 rfl) ?_
    refine va_get (D := (dC, dI)) (ci := 5) (v := .int ((T.1 3))) (C := RX5) (T := TX5) (N := 17) hx hb hts in_X1_firstLack_X5 hown hK hP 12 rfl rfl 3 (by decide) (hts (.fieldLink RX1 30 "BackLoans$Town" "lacks" "I") (by decide +kernel)) (fun _ h9 => h9) rfl dX1_firstLack_41 ?_
    refine lv_icmp_le (tgt := 50) hx hb dX1_firstLack_44 (by decide) (fun c2 => ?_) (fun c2 => ?_)
    · replace hf := it_t c2 hf
      obtain ⟨x4_50, ex4_50⟩ : ∃ y : Int32, y = (x4 + 1) := ⟨_, rfl⟩
      replace hf := lett_s ex4_50 hf
      refine lv_iinc (v := x4_50) (lv' := [(4, .int (x4_50)), (0, .ref (a 0)), (1, .ref (d 0)), (3, .int (x3))]) hx hb dX1_firstLack_50 hl (k := 3) rfl (by rw [ex4_50]; rfl) (by decide) rfl (fun ls hl => ?_)
      refine lv_goto (tgt := 19) hx hb dX1_firstLack_53 (by decide) ?_
      exact hK19 x4_50 r30 _ _ _ (lv_sub hl [1, 2, 3, 0] rfl) hP hD hS hf
    · replace hf := it_f c2 hf
      refine lv_iload hx hb dX1_firstLack_47 (lv_at hl 3 rfl) ?_
      exact hR _ _ _ _ _ _ dX1_firstLack_49 hf hP hD hS
def l_X1_firstLack_19 (x3 : Int32) (T : Tw)  (n : Nat) (x4 : Int32) (N : Tw) : Option (Int32 × Tw) := itr (fun (k : Int32 × Tw → Option (Int32 × Tw)) (z : Int32 × Tw) => f_X1_firstLack_19 x3 z.1 z.2 T (fun x4 N => k (x4, N))) n (x4, N)
set_option maxHeartbeats 4000000 in
set_option maxRecDepth 100000 in
theorem w_X1_firstLack_19 {p : Program} {l : Launch} {e : Env} {s : State} {m : MethodId} {args : Array Value} {below : List Frame} {meth : Method} {c : Code} {Q : State → Prop} {dC : Nat → ClassId} {dI : Nat → Nat → Nat} {cs : Nat → ClassId} {A : Nat → Prop} {a : Nat → Nat} {b : Nat → Nat} {d : Nat → Nat} {res : Int32 × Tw} (C : CallFix p m c cX1_firstLack 5 s args wsX1_firstLack RX1) (G : GE dC dI cs s) (hA : ∀ q : Nat, s.heap.size ≤ q → A q) {T : Tw} (hR : RTi p l e ({ frames := 4, cells := 0, slots := 0, locals := 88 }) s m args below meth c cX1_firstLack Q (dC, dI) A (fun u : Tw => (wF (a 0) (b 0) ++ wT cs b u ++ wT cs d T)) res) (x3 : Int32) (_ : Tw)   : ∀ (n : Nat) (x4 : Int32) (N : Tw) (H : Heap) (locs : List Loc) (ls : Array Slot), lv_has ls 5 [(0, .ref (a 0)), (1, .ref (d 0)), (3, .int (x3)), (4, .int (x4))] → va_P (dC, dI) vwCl (wF (a 0) (b 0) ++ wT cs b N ++ wT cs d T) H → va_D A (wF (a 0) (b 0) ++ wT cs b N ++ wT cs d T) → va_S A s.heap H locs → l_X1_firstLack_19 x3 T n x4 N = some res → W p l e ({ frames := 4, cells := 0, slots := 0, locals := 88 }) s m args below meth c H locs 0 0 Q (F0 m 19 ls []) := by
  intro n
  induction n with
  | zero => intro x4 N H locs ls hl hP hD hS hf; exact absurd hf (by simp [l_X1_firstLack_19, itr])
  | succ n ih => intro x4 N H locs ls hl hP hD hS hf; exact b_X1_firstLack_19 C G hA hR x3 x4 N T (K19 := fun x4 N => l_X1_firstLack_19 x3 T n x4 N) (fun x4 N H locs ls hl hP hD hS hf => ih x4 N H locs ls hl hP hD hS hf) H locs ls hl hP hD hS hf
def f_X1_firstLack (x2 : Int32) (x3 : Int32) (N : Tw) (T : Tw) : Option (Int32 × Tw) :=
  bn (f_X5_copyFrom N T) fun r5 =>
  lett ((upd r5.1 0 (x2), r5.2)) fun N_13 =>
  lett (0 : Int32) fun x4_17 =>
  l_X1_firstLack_19 x3 T FU x4_17 N_13
set_option maxHeartbeats 4000000 in
set_option maxRecDepth 100000 in
theorem c_X1_firstLack (l : Launch) (dC : Nat → ClassId) (dI : Nat → Nat → Nat) (cs : Nat → ClassId) (a : Nat → Nat) (b : Nat → Nat) (d : Nat → Nat) (sz : Nat) (N : Tw) (T : Tw) (x2 : Int32) (x3 : Int32) (res : Int32 × Tw) (hf : f_X1_firstLack x2 x3 N T = some res) : Met l yX1_firstLack wsX1_firstLack ({ frames := 4, cells := 0, slots := 0, locals := 88 }) (va_Pc [.ref (a 0), .ref (d 0), .int (x2), .int (x3)] (fun U => U.heap.size = sz ∧ va_P (dC, dI) vwCl (wF (a 0) (b 0) ++ wT cs b N ++ wT cs d T) U.heap ∧ GE dC dI cs U ∧ va_D (fun _ => True) (wF (a 0) (b 0) ++ wT cs b N ++ wT cs d T))) (va_Qi (fun r (u : Tw) => r = res.1 ∧ u = res.2) (fun u t => va_P (dC, dI) vwCl ((fun u : Tw => (wF (a 0) (b 0) ++ wT cs b u ++ wT cs d T)) u) t.heap ∧ va_D (va_A (wF (a 0) (b 0) ++ wT cs b N ++ wT cs d T) sz) ((fun u : Tw => (wF (a 0) (b 0) ++ wT cs b u ++ wT cs d T)) u)) (va_A (wF (a 0) (b 0) ++ wT cs b N ++ wT cs d T) sz)) 0 0 (va_A (wF (a 0) (b 0) ++ wT cs b N ++ wT cs d T) sz) := by
  refine Met.ofW (cc := cX1_firstLack) (maxL := 5) (ret := (some .int)) (by decide) rfl ?_
  intro p e s m args below meth c s₁ B hml hv
  obtain ⟨rfl, hsz, hP, G, hD0⟩ := hv
  have hts := atoms_spec (ws := wsX1_firstLack) B.pre
  have hown : s.vm.findClass RX1 = some m.cls := findClass_of_methodNamed B.named
  have hlocks := B.notSynchronized
  have hx := B.exec
  have hb := B.bytes
  have hr := B.returns
  have C : CallFix p m c cX1_firstLack 5 s _ wsX1_firstLack RX1 := ⟨hx, hb, hml, hown, hts⟩
  obtain ⟨hK, hN⟩ := id G
  subst hsz
  have hD := hD0.self (sz := s.heap.size)
  generalize hAe : va_A (wF (a 0) (b 0) ++ wT cs b N ++ wT cs d T) s.heap.size = A at hD ⊢
  have hA : ∀ q : Nat, s.heap.size ≤ q → A q := fun q h => by rw [← hAe]; exact Or.inr h
  have hS : va_S A s.heap s.heap [] := va_S.rf
  have hR : RTi p l e ({ frames := 4, cells := 0, slots := 0, locals := 88 }) s m ([.ref (a 0), .ref (d 0), .int (x2), .int (x3)] : List Value).toArray below meth c cX1_firstLack (MQ below (va_Qi (fun r (u : Tw) => r = res.1 ∧ u = res.2) (fun u t => va_P (dC, dI) vwCl ((fun u : Tw => (wF (a 0) (b 0) ++ wT cs b u ++ wT cs d T)) u) t.heap ∧ va_D A ((fun u : Tw => (wF (a 0) (b 0) ++ wT cs b u ++ wT cs d T)) u)) A) ([.ref (a 0), .ref (d 0), .int (x2), .int (x3)] : List Value).toArray s 0 0 A) (dC, dI) A (fun u : Tw => (wF (a 0) (b 0) ++ wT cs b u ++ wT cs d T)) res := fun H locs pc ls r u dd h hP hD hS => W.iret hx hb hr (fun t ht hW => ⟨⟨r, u, rfl, by cases h; exact ⟨rfl, rfl⟩, by rw [ht]; exact hP, hD⟩, hS.F ht⟩) hS.2.2 dd
  have hl := lv_entry ([.ref (a 0), .ref (d 0), .int (x2), .int (x3)]) (n := 5) (Nat.le_of_ble_eq_true rfl)
  rw [lg_entry_eq]
  generalize (lg_sl ([.ref (a 0), .ref (d 0), .int (x2), .int (x3)]) ++ List.replicate (5 - (lg_sl ([.ref (a 0), .ref (d 0), .int (x2), .int (x3)])).length) Slot.unset).toArray = ls at hl ⊢
  have hl : lv_has ls 5 [(0, .ref (a 0)), (1, .ref (d 0)), (2, .int (x2)), (3, .int (x3))] := hl
  unfold f_X1_firstLack at hf
  refine lv_aload_n hx hb dX1_firstLack_0 rfl (lv_at hl 0 rfl) ?_
  refine va_get (D := (dC, dI)) (ci := 1) (v := .ref (b 0)) (C := RX1) (T := TX1) (N := 1) hx hb hts in_X1_firstLack_X1 hown hK hP 0 rfl rfl 0 (by decide) (hts (.fieldLink RX1 12 "BackLoans$Foresight" "trial" "LBackLoans$Town;") (by decide +kernel)) (fun _ h9 => h9) rfl dX1_firstLack_1 ?_
  refine lv_aload_n hx hb dX1_firstLack_4 rfl (lv_at hl 1 rfl) ?_
  obtain ⟨r5, hr5, hf⟩ := bn_e hf
  have hPc := hP.sub (ws' := (wT cs b N ++ wT cs d T)) [1, 2, 3, 4, 5, 6, 7, 8, 9, 10, 11, 12, 13, 14, 15, 16, 17, 18, 19, 20, 21, 22] rfl
  have hDc := hD.sub (ws' := (wT cs b N ++ wT cs d T)) [1, 2, 3, 4, 5, 6, 7, 8, 9, 10, 11, 12, 13, 14, 15, 16, 17, 18, 19, 20, 21, 22] (by decide) rfl
  have hFc := va_free (wc := (wT cs b N ++ wT cs d T)) hD hS hA [1, 2, 3, 4, 5, 6, 7, 8, 9, 10, 11, 12, 13, 14, 15, 16, 17, 18, 19, 20, 21, 22] rfl
  refine va_callv (va_runV (As := [.ref (d 0)]) (rest := []) C (c_X5_copyFrom l dC dI cs b d s.heap.size N T r5 hr5) (cwV 1 hts gX1_firstLack_X5_copyFrom rfl rfl rfl (by decide +kernel) ⟨Nat.le_of_ble_eq_true rfl, Nat.le_of_ble_eq_true rfl⟩) ⟨(fun a U g mk q => ⟨q.1, q.2.1, q.2.2.1, GE.calling q.2.2.2.1, q.2.2.2.2⟩), va_recv hK hPc (ci := 5) (q0 := 0) rfl rfl, (fun U hU hW => ⟨rfl, by rw [hU], by rw [hU]; exact hPc, GE.warm hW G, hDc.weaken (fun _ _ _ _ => trivial)⟩)⟩ rfl rfl hl.1 rfl (lv_room (Nat.le_of_ble_eq_true rfl)) dX1_firstLack_5 ⟨Nat.le_of_ble_eq_true rfl, Nat.le_of_ble_eq_true rfl⟩) hS (fun q _ h => hFc q h) hFc (fun u t H1 locs ht hvm hw hB hz1 hk1 hS => ?_)
  obtain rfl := hw.symm
  obtain ⟨hP1, hD1⟩ := hB
  rw [ht] at hP1
  obtain ⟨hP, hD⟩ := va_join (wr := [0].filterMap (fun i => ((wF (a 0) (b 0) ++ wT cs b N ++ wT cs d T))[i]?)) (w1 := (wT cs b r5 ++ wT cs d T)) hP hD [1, 2, 3, 4, 5, 6, 7, 8, 9, 10, 11, 12, 13, 14, 15, 16, 17, 18, 19, 20, 21, 22] [0] rfl rfl (by decide) (by decide) hk1 hFc hP1 hD1
  generalize H1 = H at hP hS ⊢
  have hP := hP.sub (ws' := (wF (a 0) (b 0) ++ wT cs b r5 ++ wT cs d T)) [0, 1, 2, 3, 4, 5, 6, 7, 8, 9, 10, 11, 12, 13, 14, 15, 16, 17, 18, 19, 20, 21, 22] rfl
  have hD := hD.sub (ws' := (wF (a 0) (b 0) ++ wT cs b r5 ++ wT cs d T)) [0, 1, 2, 3, 4, 5, 6, 7, 8, 9, 10, 11, 12, 13, 14, 15, 16, 17, 18, 19, 20, 21, 22] (by decide) rfl
  refine lv_aload_n hx hb dX1_firstLack_8 rfl (lv_at hl 0 rfl) ?_
  refine va_get (D := (dC, dI)) (ci := 1) (v := .ref (b 0)) (C := RX1) (T := TX1) (N := 1) hx hb hts in_X1_firstLack_X1 hown hK hP 0 rfl rfl 0 (by decide) (hts (.fieldLink RX1 12 "BackLoans$Foresight" "trial" "LBackLoans$Town;") (by decide +kernel)) (fun _ h9 => h9) rfl dX1_firstLack_9 ?_
  refine lv_iload_n hx hb dX1_firstLack_12 rfl (lv_at hl 2 rfl) ?_
  refine va_put (D := (dC, dI)) (ci := 5) (v := .int (x2)) (ty := .int) (C := RX5) (T := TX5) (N := 17) hx hb hts in_X1_firstLack_X5 tyX5 tyX5_ok nmX5 hown hK hP hD hS 1 rfl rfl 0 (by decide) (hts (.fieldLink RX1 26 "BackLoans$Town" "chest" "I") (by decide +kernel)) (fun _ h9 => h9) rfl (by decide +kernel) rfl rfl (Nat.le_of_ble_eq_true rfl) dX1_firstLack_13 (fun H locs hP hD hS => ?_)
  obtain ⟨N_13, hP, hD, hf⟩ := st_nm (ws := fun N_13 : Tw => (wF (a 0) (b 0) ++ wT cs b N_13 ++ wT cs d T)) ((upd r5.1 0 (x2), r5.2)) hP hD hf
  refine lv_iconst (v := 0) hx hb dX1_firstLack_16 (by decide) ?_
  refine lv_topi (fun x4_17 ex4_17 => ?_)
  replace hf := lett_s ex4_17 hf
  refine lv_istore (lv' := [(4, .int (x4_17)), (0, .ref (a 0)), (1, .ref (d 0)), (2, .int (x2)), (3, .int (x3))]) hx hb dX1_firstLack_17 hl (by decide) rfl (fun ls hl => ?_)
  exact w_X1_firstLack_19 C G hA hR x3 T FU x4_17 N_13 _ _ _ (lv_sub hl [1, 2, 4, 0] rfl) hP hD hS hf

def f_X1_leastChest_70 (x2 : Int32) (x3 : Int32) (x4 : Int32) (x5 : Int32) (N : Tw) (T : Tw) (K25 : Int32 → Int32 → Int32 → Tw → Option (Int32 × Tw)) : Option (Int32 × Tw) :=
  lett (x5 + 1) fun x5_70 =>
  K25 x3 x4 x5_70 N
set_option maxHeartbeats 4000000 in
set_option maxRecDepth 100000 in
theorem b_X1_leastChest_70 {p : Program} {l : Launch} {e : Env} {s : State} {m : MethodId} {args : Array Value} {below : List Frame} {meth : Method} {c : Code} {Q : State → Prop} {dC : Nat → ClassId} {dI : Nat → Nat → Nat} {cs : Nat → ClassId} {A : Nat → Prop} {a : Nat → Nat} {b : Nat → Nat} {d : Nat → Nat} {res : Int32 × Tw} (C : CallFix p m c cX1_leastChest 7 s args wsX1_leastChest RX1) (G : GE dC dI cs s) (hA : ∀ q : Nat, s.heap.size ≤ q → A q) {T : Tw} (hR : RTi p l e ({ frames := 5, cells := 0, slots := 0, locals := 112 }) s m args below meth c cX1_leastChest Q (dC, dI) A (fun u : Tw => (wF (a 0) (b 0) ++ wT cs b u ++ wT cs d T)) res) (x2 : Int32) (x3 : Int32) (x4 : Int32) (x5 : Int32) (N : Tw) (_ : Tw) {K25 : Int32 → Int32 → Int32 → Tw → Option (Int32 × Tw)} (hK25 : ∀ (x3 : Int32) (x4 : Int32) (x5 : Int32) (N : Tw) (H : Heap) (locs : List Loc) (ls : Array Slot), lv_has ls 7 [(0, .ref (a 0)), (1, .ref (d 0)), (2, .int (x2)), (3, .int (x3)), (4, .int (x4)), (5, .int (x5))] → va_P (dC, dI) vwCl (wF (a 0) (b 0) ++ wT cs b N ++ wT cs d T) H → va_D A (wF (a 0) (b 0) ++ wT cs b N ++ wT cs d T) → va_S A s.heap H locs → K25 x3 x4 x5 N = some res → W p l e ({ frames := 5, cells := 0, slots := 0, locals := 112 }) s m args below meth c H locs 0 0 Q (F0 m 25 ls [])) (H : Heap) (locs : List Loc) (ls : Array Slot) (hl : lv_has ls 7 [(0, .ref (a 0)), (1, .ref (d 0)), (2, .int (x2)), (3, .int (x3)), (4, .int (x4)), (5, .int (x5))]) (hP : va_P (dC, dI) vwCl (wF (a 0) (b 0) ++ wT cs b N ++ wT cs d T) H) (hD : va_D A (wF (a 0) (b 0) ++ wT cs b N ++ wT cs d T)) (hS : va_S A s.heap H locs) (hf : f_X1_leastChest_70 x2 x3 x4 x5 N T K25 = some res) : W p l e ({ frames := 5, cells := 0, slots := 0, locals := 112 }) s m args below meth c H locs 0 0 Q (F0 m 70 ls []) := by
  obtain ⟨hx, hb, hml, hown, hts⟩ := id C
  obtain ⟨hK, hN⟩ := id G
  unfold f_X1_leastChest_70 at hf
  obtain ⟨x5_70, ex5_70⟩ : ∃ y : Int32, y = (x5 + 1) := ⟨_, rfl⟩
  replace hf := lett_s ex5_70 hf
  refine lv_iinc (v := x5_70) (lv' := [(5, .int (x5_70)), (0, .ref (a 0)), (1, .ref (d 0)), (2, .int (x2)), (3, .int (x3)), (4, .int (x4))]) hx hb dX1_leastChest_70 hl (k := 5) rfl (by rw [ex5_70]; rfl) (by decide) rfl (fun ls hl => ?_)
  refine lv_goto (tgt := 25) hx hb dX1_leastChest_73 (by decide) ?_
  exact hK25 x3 x4 x5_70 N _ _ _ (lv_sub hl [1, 2, 3, 4, 5, 0] rfl) hP hD hS hf
def f_X1_leastChest_25 (x2 : Int32) (x3 : Int32) (x4 : Int32) (x5 : Int32) (N : Tw) (T : Tw) (K25 : Int32 → Int32 → Int32 → Tw → Option (Int32 × Tw)) : Option (Int32 × Tw) :=
  if (14 : Int32) ≤ x5 then (
    some (x4, N)
  ) else (
    if x4 ≤ x3 then (
      some (x4, N)
    ) else (
      lett ((x3 + x4) / (2 : Int32)) fun x6_44 =>
      bn (f_X1_firstLack x6_44 x2 N T) fun r51 =>
      if r51.1 = (-1 : Int32) then (
        f_X1_leastChest_70 x2 x3 x6_44 x5 r51.2 T K25
      ) else (
        lett (x6_44 + (1 : Int32)) fun x3_69 =>
        f_X1_leastChest_70 x2 x3_69 x4 x5 r51.2 T K25
      )
    )
  )
set_option maxHeartbeats 4000000 in
set_option maxRecDepth 100000 in
theorem b_X1_leastChest_25 {p : Program} {l : Launch} {e : Env} {s : State} {m : MethodId} {args : Array Value} {below : List Frame} {meth : Method} {c : Code} {Q : State → Prop} {dC : Nat → ClassId} {dI : Nat → Nat → Nat} {cs : Nat → ClassId} {A : Nat → Prop} {a : Nat → Nat} {b : Nat → Nat} {d : Nat → Nat} {res : Int32 × Tw} (C : CallFix p m c cX1_leastChest 7 s args wsX1_leastChest RX1) (G : GE dC dI cs s) (hA : ∀ q : Nat, s.heap.size ≤ q → A q) {T : Tw} (hR : RTi p l e ({ frames := 5, cells := 0, slots := 0, locals := 112 }) s m args below meth c cX1_leastChest Q (dC, dI) A (fun u : Tw => (wF (a 0) (b 0) ++ wT cs b u ++ wT cs d T)) res) (x2 : Int32) (x3 : Int32) (x4 : Int32) (x5 : Int32) (N : Tw) (_ : Tw) {K25 : Int32 → Int32 → Int32 → Tw → Option (Int32 × Tw)} (hK25 : ∀ (x3 : Int32) (x4 : Int32) (x5 : Int32) (N : Tw) (H : Heap) (locs : List Loc) (ls : Array Slot), lv_has ls 7 [(0, .ref (a 0)), (1, .ref (d 0)), (2, .int (x2)), (3, .int (x3)), (4, .int (x4)), (5, .int (x5))] → va_P (dC, dI) vwCl (wF (a 0) (b 0) ++ wT cs b N ++ wT cs d T) H → va_D A (wF (a 0) (b 0) ++ wT cs b N ++ wT cs d T) → va_S A s.heap H locs → K25 x3 x4 x5 N = some res → W p l e ({ frames := 5, cells := 0, slots := 0, locals := 112 }) s m args below meth c H locs 0 0 Q (F0 m 25 ls [])) (H : Heap) (locs : List Loc) (ls : Array Slot) (hl : lv_has ls 7 [(0, .ref (a 0)), (1, .ref (d 0)), (2, .int (x2)), (3, .int (x3)), (4, .int (x4)), (5, .int (x5))]) (hP : va_P (dC, dI) vwCl (wF (a 0) (b 0) ++ wT cs b N ++ wT cs d T) H) (hD : va_D A (wF (a 0) (b 0) ++ wT cs b N ++ wT cs d T)) (hS : va_S A s.heap H locs) (hf : f_X1_leastChest_25 x2 x3 x4 x5 N T K25 = some res) : W p l e ({ frames := 5, cells := 0, slots := 0, locals := 112 }) s m args below meth c H locs 0 0 Q (F0 m 25 ls []) := by
  obtain ⟨hx, hb, hml, hown, hts⟩ := id C
  obtain ⟨hK, hN⟩ := id G
  unfold f_X1_leastChest_25 at hf
  refine lv_iload hx hb dX1_leastChest_25 (lv_at hl 5 rfl) ?_
  refine lv_bipush (v := 14) hx hb dX1_leastChest_27 (by decide) ?_
  refine lv_icmp_ge (tgt := 76) hx hb dX1_leastChest_29 (by decide) (fun c1 => ?_) (fun c1 => ?_)
  · replace hf := it_t c1 hf
    refine lv_iload hx hb dX1_leastChest_76 (lv_at hl 4 rfl) ?_
    exact hR _ _ _ _ _ _ dX1_leastChest_78 hf hP hD hS
  · replace hf := it_f c1 hf
    refine lv_iload_n hx hb dX1_leastChest_32 rfl (lv_at hl 3 rfl) ?_
    refine lv_iload hx hb dX1_leastChest_33 (lv_at hl 4 rfl) ?_
    refine lv_icmp_ge (tgt := 76) hx hb dX1_leastChest_35 (by decide) (fun c2 => ?_) (fun c2 => ?_)
    · replace hf := it_t c2 hf
      refine lv_iload hx hb dX1_leastChest_76 (lv_at hl 4 rfl) ?_
      exact hR _ _ _ _ _ _ dX1_leastChest_78 hf hP hD hS
    · replace hf := it_f c2 hf
      refine lv_iload_n hx hb dX1_leastChest_38 rfl (lv_at hl 3 rfl) ?_
      refine lv_iload hx hb dX1_leastChest_39 (lv_at hl 4 rfl) ?_
      refine lv_iadd hx hb dX1_leastChest_41 ?_
      refine lv_iconst (v := 2) hx hb dX1_leastChest_42 (by decide) ?_
      refine lv_idiv hx hb dX1_leastChest_43 (by decide) ?_
      refine lv_topi (fun x6_44 ex6_44 => ?_)
      replace hf := lett_s ex6_44 hf
      refine lv_istore (lv' := [(6, .int (x6_44)), (0, .ref (a 0)), (1, .ref (d 0)), (2, .int (x2)), (3, .int (x3)), (4, .int (x4)), (5, .int (x5))]) hx hb dX1_leastChest_44 hl (by decide) rfl (fun ls hl => ?_)
      refine lv_aload_n hx hb dX1_leastChest_46 rfl (lv_at hl 1 rfl) ?_
      refine lv_aload_n hx hb dX1_leastChest_47 rfl (lv_at hl 2 rfl) ?_
      refine lv_iload hx hb dX1_leastChest_48 (lv_at hl 0 rfl) ?_
      refine lv_iload_n hx hb dX1_leastChest_50 rfl (lv_at hl 3 rfl) ?_
      obtain ⟨r51, hr51, hf⟩ := bn_e hf
      have hPc := hP.sub (ws' := (wF (a 0) (b 0) ++ wT cs b N ++ wT cs d T)) [0, 1, 2, 3, 4, 5, 6, 7, 8, 9, 10, 11, 12, 13, 14, 15, 16, 17, 18, 19, 20, 21, 22] rfl
      have hDc := hD.sub (ws' := (wF (a 0) (b 0) ++ wT cs b N ++ wT cs d T)) [0, 1, 2, 3, 4, 5, 6, 7, 8, 9, 10, 11, 12, 13, 14, 15, 16, 17, 18, 19, 20, 21, 22] (by decide) rfl
      have hFc := va_free (wc := (wF (a 0) (b 0) ++ wT cs b N ++ wT cs d T)) hD hS hA [0, 1, 2, 3, 4, 5, 6, 7, 8, 9, 10, 11, 12, 13, 14, 15, 16, 17, 18, 19, 20, 21, 22] rfl
      refine va_calli (va_runV (As := [.ref (d 0), .int (x6_44), .int (x2)]) (rest := []) C (c_X1_firstLack l dC dI cs a b d H.size N T x6_44 x2 r51 hr51) (cwV 3 hts gX1_leastChest_X1_firstLack rfl rfl rfl (by decide +kernel) ⟨Nat.le_of_ble_eq_true rfl, Nat.le_of_ble_eq_true rfl⟩) ⟨(fun a U g mk q => ⟨q.1, q.2.1, q.2.2.1, GE.calling q.2.2.2.1, q.2.2.2.2⟩), va_recv hK hPc (ci := 1) (q0 := 0) rfl rfl, (fun U hU hW => ⟨rfl, by rw [hU], by rw [hU]; exact hPc, GE.warm hW G, hDc.weaken (fun _ _ _ _ => trivial)⟩)⟩ rfl rfl hl.1 rfl (lv_room (Nat.le_of_ble_eq_true rfl)) dX1_leastChest_51 ⟨Nat.le_of_ble_eq_true rfl, Nat.le_of_ble_eq_true rfl⟩) hS (fun q _ h => hFc q h) hFc (fun q u t H1 locs ht hvm hw hB hz1 hk1 hS => ?_)
      obtain ⟨rfl, rfl⟩ := hw
      obtain ⟨hP1, hD1⟩ := hB
      rw [ht] at hP1
      obtain ⟨hP, hD⟩ := va_join (wr := []) (w1 := (wF (a 0) (b 0) ++ wT cs b r51.2 ++ wT cs d T)) hP hD [0, 1, 2, 3, 4, 5, 6, 7, 8, 9, 10, 11, 12, 13, 14, 15, 16, 17, 18, 19, 20, 21, 22] [] rfl rfl (by decide) (by decide) hk1 hFc hP1 hD1
      generalize H1 = H at hP hS ⊢
      have hP := hP.sub (ws' := (wF (a 0) (b 0) ++ wT cs b r51.2 ++ wT cs d T)) [0, 1, 2, 3, 4, 5, 6, 7, 8, 9, 10, 11, 12, 13, 14, 15, 16, 17, 18, 19, 20, 21, 22] rfl
      have hD := hD.sub (ws' := (wF (a 0) (b 0) ++ wT cs b r51.2 ++ wT cs d T)) [0, 1, 2, 3, 4, 5, 6, 7, 8, 9, 10, 11, 12, 13, 14, 15, 16, 17, 18, 19, 20, 21, 22] (by decide) rfl
      refine lv_iconst (v := -1) hx hb dX1_leastChest_54 (by decide) ?_
      refine lv_icmp_ne (tgt := 65) hx hb dX1_leastChest_55 (by decide) (fun c3 => ?_) (fun c3 => ?_)
      · replace hf := it_f c3 hf
        refine lv_iload hx hb dX1_leastChest_65 (lv_at hl 0 rfl) ?_
        refine lv_iconst (v := 1) hx hb dX1_leastChest_67 (by decide) ?_
        refine lv_iadd hx hb dX1_leastChest_68 ?_
        refine lv_topi (fun x3_69 ex3_69 => ?_)
        replace hf := lett_s ex3_69 hf
        refine lv_istore_n (lv' := [(3, .int (x3_69)), (6, .int (x6_44)), (0, .ref (a 0)), (1, .ref (d 0)), (2, .int (x2)), (4, .int (x4)), (5, .int (x5))]) hx hb dX1_leastChest_69 rfl hl (by decide) rfl (fun ls hl => ?_)
        exact b_X1_leastChest_70 C G hA hR x2 x3_69 x4 x5 r51.2 T hK25 _ _ _ (lv_sub hl [2, 3, 4, 0, 5, 6] rfl) hP hD hS hf
      · replace hf := it_t c3 hf
        refine lv_iload hx hb dX1_leastChest_58 (lv_at hl 0 rfl) ?_
        refine lv_istore (lv' := [(4, .int (x6_44)), (6, .int (x6_44)), (0, .ref (a 0)), (1, .ref (d 0)), (2, .int (x2)), (3, .int (x3)), (5, .int (x5))]) hx hb dX1_leastChest_60 hl (by decide) rfl (fun ls hl => ?_)
        refine lv_goto (tgt := 70) hx hb dX1_leastChest_62 (by decide) ?_
        exact b_X1_leastChest_70 C G hA hR x2 x3 x6_44 x5 r51.2 T hK25 _ _ _ (lv_sub hl [2, 3, 4, 5, 0, 6] rfl) hP hD hS hf
def l_X1_leastChest_25 (x2 : Int32) (T : Tw)  (n : Nat) (x3 : Int32) (x4 : Int32) (x5 : Int32) (N : Tw) : Option (Int32 × Tw) := itr (fun (k : Int32 × Int32 × Int32 × Tw → Option (Int32 × Tw)) (z : Int32 × Int32 × Int32 × Tw) => f_X1_leastChest_25 x2 z.1 z.2.1 z.2.2.1 z.2.2.2 T (fun x3 x4 x5 N => k (x3, x4, x5, N))) n (x3, x4, x5, N)
set_option maxHeartbeats 4000000 in
set_option maxRecDepth 100000 in
theorem w_X1_leastChest_25 {p : Program} {l : Launch} {e : Env} {s : State} {m : MethodId} {args : Array Value} {below : List Frame} {meth : Method} {c : Code} {Q : State → Prop} {dC : Nat → ClassId} {dI : Nat → Nat → Nat} {cs : Nat → ClassId} {A : Nat → Prop} {a : Nat → Nat} {b : Nat → Nat} {d : Nat → Nat} {res : Int32 × Tw} (C : CallFix p m c cX1_leastChest 7 s args wsX1_leastChest RX1) (G : GE dC dI cs s) (hA : ∀ q : Nat, s.heap.size ≤ q → A q) {T : Tw} (hR : RTi p l e ({ frames := 5, cells := 0, slots := 0, locals := 112 }) s m args below meth c cX1_leastChest Q (dC, dI) A (fun u : Tw => (wF (a 0) (b 0) ++ wT cs b u ++ wT cs d T)) res) (x2 : Int32) (_ : Tw)   : ∀ (n : Nat) (x3 : Int32) (x4 : Int32) (x5 : Int32) (N : Tw) (H : Heap) (locs : List Loc) (ls : Array Slot), lv_has ls 7 [(0, .ref (a 0)), (1, .ref (d 0)), (2, .int (x2)), (3, .int (x3)), (4, .int (x4)), (5, .int (x5))] → va_P (dC, dI) vwCl (wF (a 0) (b 0) ++ wT cs b N ++ wT cs d T) H → va_D A (wF (a 0) (b 0) ++ wT cs b N ++ wT cs d T) → va_S A s.heap H locs → l_X1_leastChest_25 x2 T n x3 x4 x5 N = some res → W p l e ({ frames := 5, cells := 0, slots := 0, locals := 112 }) s m args below meth c H locs 0 0 Q (F0 m 25 ls []) := by
  intro n
  induction n with
  | zero => intro x3 x4 x5 N H locs ls hl hP hD hS hf; exact absurd hf (by simp [l_X1_leastChest_25, itr])
  | succ n ih => intro x3 x4 x5 N H locs ls hl hP hD hS hf; exact b_X1_leastChest_25 C G hA hR x2 x3 x4 x5 N T (K25 := fun x3 x4 x5 N => l_X1_leastChest_25 x2 T n x3 x4 x5 N) (fun x3 x4 x5 N H locs ls hl hP hD hS hf => ih x3 x4 x5 N H locs ls hl hP hD hS hf) H locs ls hl hP hD hS hf
def f_X1_leastChest (x2 : Int32) (N : Tw) (T : Tw) : Option (Int32 × Tw) :=
  bn (f_X1_firstLack (9999 : Int32) x2 N T) fun r6 =>
  if r6.1 = (-1 : Int32) then (
    lett (0 : Int32) fun x3_16 =>
    lett (9999 : Int32) fun x4_20 =>
    lett (0 : Int32) fun x5_23 =>
    l_X1_leastChest_25 x2 T FU x3_16 x4_20 x5_23 r6.2
  ) else (
    some ((-1 : Int32), r6.2)
  )
set_option maxHeartbeats 4000000 in
set_option maxRecDepth 100000 in
theorem c_X1_leastChest (l : Launch) (dC : Nat → ClassId) (dI : Nat → Nat → Nat) (cs : Nat → ClassId) (a : Nat → Nat) (b : Nat → Nat) (d : Nat → Nat) (sz : Nat) (N : Tw) (T : Tw) (x2 : Int32) (res : Int32 × Tw) (hf : f_X1_leastChest x2 N T = some res) : Met l yX1_leastChest wsX1_leastChest ({ frames := 5, cells := 0, slots := 0, locals := 112 }) (va_Pc [.ref (a 0), .ref (d 0), .int (x2)] (fun U => U.heap.size = sz ∧ va_P (dC, dI) vwCl (wF (a 0) (b 0) ++ wT cs b N ++ wT cs d T) U.heap ∧ GE dC dI cs U ∧ va_D (fun _ => True) (wF (a 0) (b 0) ++ wT cs b N ++ wT cs d T))) (va_Qi (fun r (u : Tw) => r = res.1 ∧ u = res.2) (fun u t => va_P (dC, dI) vwCl ((fun u : Tw => (wF (a 0) (b 0) ++ wT cs b u ++ wT cs d T)) u) t.heap ∧ va_D (va_A (wF (a 0) (b 0) ++ wT cs b N ++ wT cs d T) sz) ((fun u : Tw => (wF (a 0) (b 0) ++ wT cs b u ++ wT cs d T)) u)) (va_A (wF (a 0) (b 0) ++ wT cs b N ++ wT cs d T) sz)) 0 0 (va_A (wF (a 0) (b 0) ++ wT cs b N ++ wT cs d T) sz) := by
  refine Met.ofW (cc := cX1_leastChest) (maxL := 7) (ret := (some .int)) (by decide) rfl ?_
  intro p e s m args below meth c s₁ B hml hv
  obtain ⟨rfl, hsz, hP, G, hD0⟩ := hv
  have hts := atoms_spec (ws := wsX1_leastChest) B.pre
  have hown : s.vm.findClass RX1 = some m.cls := findClass_of_methodNamed B.named
  have hlocks := B.notSynchronized
  have hx := B.exec
  have hb := B.bytes
  have hr := B.returns
  have C : CallFix p m c cX1_leastChest 7 s _ wsX1_leastChest RX1 := ⟨hx, hb, hml, hown, hts⟩
  obtain ⟨hK, hN⟩ := id G
  subst hsz
  have hD := hD0.self (sz := s.heap.size)
  generalize hAe : va_A (wF (a 0) (b 0) ++ wT cs b N ++ wT cs d T) s.heap.size = A at hD ⊢
  have hA : ∀ q : Nat, s.heap.size ≤ q → A q := fun q h => by rw [← hAe]; exact Or.inr h
  have hS : va_S A s.heap s.heap [] := va_S.rf
  have hR : RTi p l e ({ frames := 5, cells := 0, slots := 0, locals := 112 }) s m ([.ref (a 0), .ref (d 0), .int (x2)] : List Value).toArray below meth c cX1_leastChest (MQ below (va_Qi (fun r (u : Tw) => r = res.1 ∧ u = res.2) (fun u t => va_P (dC, dI) vwCl ((fun u : Tw => (wF (a 0) (b 0) ++ wT cs b u ++ wT cs d T)) u) t.heap ∧ va_D A ((fun u : Tw => (wF (a 0) (b 0) ++ wT cs b u ++ wT cs d T)) u)) A) ([.ref (a 0), .ref (d 0), .int (x2)] : List Value).toArray s 0 0 A) (dC, dI) A (fun u : Tw => (wF (a 0) (b 0) ++ wT cs b u ++ wT cs d T)) res := fun H locs pc ls r u dd h hP hD hS => W.iret hx hb hr (fun t ht hW => ⟨⟨r, u, rfl, by cases h; exact ⟨rfl, rfl⟩, by rw [ht]; exact hP, hD⟩, hS.F ht⟩) hS.2.2 dd
  have hl := lv_entry ([.ref (a 0), .ref (d 0), .int (x2)]) (n := 7) (Nat.le_of_ble_eq_true rfl)
  rw [lg_entry_eq]
  generalize (lg_sl ([.ref (a 0), .ref (d 0), .int (x2)]) ++ List.replicate (7 - (lg_sl ([.ref (a 0), .ref (d 0), .int (x2)])).length) Slot.unset).toArray = ls at hl ⊢
  have hl : lv_has ls 7 [(0, .ref (a 0)), (1, .ref (d 0)), (2, .int (x2))] := hl
  unfold f_X1_leastChest at hf
  refine lv_aload_n hx hb dX1_leastChest_0 rfl (lv_at hl 0 rfl) ?_
  refine lv_aload_n hx hb dX1_leastChest_1 rfl (lv_at hl 1 rfl) ?_
  refine lv_sipush (v := 9999) hx hb dX1_leastChest_2 (by decide) ?_
  refine lv_iload_n hx hb dX1_leastChest_5 rfl (lv_at hl 2 rfl) ?_
  obtain ⟨r6, hr6, hf⟩ := bn_e hf
  have hPc := hP.sub (ws' := (wF (a 0) (b 0) ++ wT cs b N ++ wT cs d T)) [0, 1, 2, 3, 4, 5, 6, 7, 8, 9, 10, 11, 12, 13, 14, 15, 16, 17, 18, 19, 20, 21, 22] rfl
  have hDc := hD.sub (ws' := (wF (a 0) (b 0) ++ wT cs b N ++ wT cs d T)) [0, 1, 2, 3, 4, 5, 6, 7, 8, 9, 10, 11, 12, 13, 14, 15, 16, 17, 18, 19, 20, 21, 22] (by decide) rfl
  have hFc := va_free (wc := (wF (a 0) (b 0) ++ wT cs b N ++ wT cs d T)) hD hS hA [0, 1, 2, 3, 4, 5, 6, 7, 8, 9, 10, 11, 12, 13, 14, 15, 16, 17, 18, 19, 20, 21, 22] rfl
  refine va_calli (va_runV (As := [.ref (d 0), .int ((9999 : Int32)), .int (x2)]) (rest := []) C (c_X1_firstLack l dC dI cs a b d s.heap.size N T (9999 : Int32) x2 r6 hr6) (cwV 3 hts gX1_leastChest_X1_firstLack rfl rfl rfl (by decide +kernel) ⟨Nat.le_of_ble_eq_true rfl, Nat.le_of_ble_eq_true rfl⟩) ⟨(fun a U g mk q => ⟨q.1, q.2.1, q.2.2.1, GE.calling q.2.2.2.1, q.2.2.2.2⟩), va_recv hK hPc (ci := 1) (q0 := 0) rfl rfl, (fun U hU hW => ⟨rfl, by rw [hU], by rw [hU]; exact hPc, GE.warm hW G, hDc.weaken (fun _ _ _ _ => trivial)⟩)⟩ rfl rfl hl.1 rfl (lv_room (Nat.le_of_ble_eq_true rfl)) dX1_leastChest_6 ⟨Nat.le_of_ble_eq_true rfl, Nat.le_of_ble_eq_true rfl⟩) hS (fun q _ h => hFc q h) hFc (fun q u t H1 locs ht hvm hw hB hz1 hk1 hS => ?_)
  obtain ⟨rfl, rfl⟩ := hw
  obtain ⟨hP1, hD1⟩ := hB
  rw [ht] at hP1
  obtain ⟨hP, hD⟩ := va_join (wr := []) (w1 := (wF (a 0) (b 0) ++ wT cs b r6.2 ++ wT cs d T)) hP hD [0, 1, 2, 3, 4, 5, 6, 7, 8, 9, 10, 11, 12, 13, 14, 15, 16, 17, 18, 19, 20, 21, 22] [] rfl rfl (by decide) (by decide) hk1 hFc hP1 hD1
  generalize H1 = H at hP hS ⊢
  have hP := hP.sub (ws' := (wF (a 0) (b 0) ++ wT cs b r6.2 ++ wT cs d T)) [0, 1, 2, 3, 4, 5, 6, 7, 8, 9, 10, 11, 12, 13, 14, 15, 16, 17, 18, 19, 20, 21, 22] rfl
  have hD := hD.sub (ws' := (wF (a 0) (b 0) ++ wT cs b r6.2 ++ wT cs d T)) [0, 1, 2, 3, 4, 5, 6, 7, 8, 9, 10, 11, 12, 13, 14, 15, 16, 17, 18, 19, 20, 21, 22] (by decide) rfl
  refine lv_iconst (v := -1) hx hb dX1_leastChest_9 (by decide) ?_
  refine lv_icmp_eq (tgt := 15) hx hb dX1_leastChest_10 (by decide) (fun c1 => ?_) (fun c1 => ?_)
  · replace hf := it_t c1 hf
    refine lv_iconst (v := 0) hx hb dX1_leastChest_15 (by decide) ?_
    refine lv_topi (fun x3_16 ex3_16 => ?_)
    replace hf := lett_s ex3_16 hf
    refine lv_istore_n (lv' := [(3, .int (x3_16)), (0, .ref (a 0)), (1, .ref (d 0)), (2, .int (x2))]) hx hb dX1_leastChest_16 rfl hl (by decide) rfl (fun ls hl => ?_)
    refine lv_sipush (v := 9999) hx hb dX1_leastChest_17 (by decide) ?_
    refine lv_topi (fun x4_20 ex4_20 => ?_)
    replace hf := lett_s ex4_20 hf
    refine lv_istore (lv' := [(4, .int (x4_20)), (3, .int (x3_16)), (0, .ref (a 0)), (1, .ref (d 0)), (2, .int (x2))]) hx hb dX1_leastChest_20 hl (by decide) rfl (fun ls hl => ?_)
    refine lv_iconst (v := 0) hx hb dX1_leastChest_22 (by decide) ?_
    refine lv_topi (fun x5_23 ex5_23 => ?_)
    replace hf := lett_s ex5_23 hf
    refine lv_istore (lv' := [(5, .int (x5_23)), (4, .int (x4_20)), (3, .int (x3_16)), (0, .ref (a 0)), (1, .ref (d 0)), (2, .int (x2))]) hx hb dX1_leastChest_23 hl (by decide) rfl (fun ls hl => ?_)
    exact w_X1_leastChest_25 C G hA hR x2 T FU x3_16 x4_20 x5_23 r6.2 _ _ _ (lv_sub hl [3, 4, 5, 2, 1, 0] rfl) hP hD hS hf
  · replace hf := it_f c1 hf
    refine lv_iconst (v := -1) hx hb dX1_leastChest_13 (by decide) ?_
    exact hR _ _ _ _ _ _ dX1_leastChest_14 hf hP hD hS

theorem in_X1_canBear_X1 : ∀ w ∈ wsX10, w ∈ wsX1_canBear := by decide +kernel
theorem in_X1_canBear_X5 : ∀ w ∈ wsX50, w ∈ wsX1_canBear := by decide +kernel
def f_X1_canBear_52 (x2 : Int32) (x3 : Int32) (x4 : Int32) (x5 : Int32) (N : Tw) (T : Tw) (K11 : Int32 → Tw → Option (Int32 × Tw)) : Option (Int32 × Tw) :=
  lett (x5 + 1) fun x5_52 =>
  K11 x5_52 N
set_option maxHeartbeats 4000000 in
set_option maxRecDepth 100000 in
theorem b_X1_canBear_52 {p : Program} {l : Launch} {e : Env} {s : State} {m : MethodId} {args : Array Value} {below : List Frame} {meth : Method} {c : Code} {Q : State → Prop} {dC : Nat → ClassId} {dI : Nat → Nat → Nat} {cs : Nat → ClassId} {A : Nat → Prop} {a : Nat → Nat} {b : Nat → Nat} {d : Nat → Nat} {res : Int32 × Tw} (C : CallFix p m c cX1_canBear 6 s args wsX1_canBear RX1) (G : GE dC dI cs s) (hA : ∀ q : Nat, s.heap.size ≤ q → A q) {T : Tw} (hR : RTz p l e ({ frames := 4, cells := 0, slots := 0, locals := 88 }) s m args below meth c cX1_canBear Q (dC, dI) A (fun u : Tw => (wF (a 0) (b 0) ++ wT cs b u ++ wT cs d T)) res) (x2 : Int32) (x3 : Int32) (x4 : Int32) (x5 : Int32) (N : Tw) (_ : Tw) {K11 : Int32 → Tw → Option (Int32 × Tw)} (hK11 : ∀ (x5 : Int32) (N : Tw) (H : Heap) (locs : List Loc) (ls : Array Slot), lv_has ls 6 [(0, .ref (a 0)), (1, .ref (d 0)), (2, .int (x2)), (3, .int (x3)), (4, .int (x4)), (5, .int (x5))] → va_P (dC, dI) vwCl (wF (a 0) (b 0) ++ wT cs b N ++ wT cs d T) H → va_D A (wF (a 0) (b 0) ++ wT cs b N ++ wT cs d T) → va_S A s.heap H locs → K11 x5 N = some res → W p l e ({ frames := 4, cells := 0, slots := 0, locals := 88 }) s m args below meth c H locs 0 0 Q (F0 m 11 ls [])) (H : Heap) (locs : List Loc) (ls : Array Slot) (hl : lv_has ls 6 [(0, .ref (a 0)), (1, .ref (d 0)), (2, .int (x2)), (3, .int (x3)), (4, .int (x4)), (5, .int (x5))]) (hP : va_P (dC, dI) vwCl (wF (a 0) (b 0) ++ wT cs b N ++ wT cs d T) H) (hD : va_D A (wF (a 0) (b 0) ++ wT cs b N ++ wT cs d T)) (hS : va_S A s.heap H locs) (hf : f_X1_canBear_52 x2 x3 x4 x5 N T K11 = some res) : W p l e ({ frames := 4, cells := 0, slots := 0, locals := 88 }) s m args below meth c H locs 0 0 Q (F0 m 52 ls []) := by
  obtain ⟨hx, hb, hml, hown, hts⟩ := id C
  obtain ⟨hK, hN⟩ := id G
  unfold f_X1_canBear_52 at hf
  obtain ⟨x5_52, ex5_52⟩ : ∃ y : Int32, y = (x5 + 1) := ⟨_, rfl⟩
  replace hf := lett_s ex5_52 hf
  refine lv_iinc (v := x5_52) (lv' := [(5, .int (x5_52)), (0, .ref (a 0)), (1, .ref (d 0)), (2, .int (x2)), (3, .int (x3)), (4, .int (x4))]) hx hb dX1_canBear_52 hl (k := 5) rfl (by rw [ex5_52]; rfl) (by decide) rfl (fun ls hl => ?_)
  refine lv_goto (tgt := 11) hx hb dX1_canBear_55 (by decide) ?_
  exact hK11 x5_52 N _ _ _ (lv_sub hl [1, 2, 3, 4, 5, 0] rfl) hP hD hS hf
def f_X1_canBear_11 (x2 : Int32) (x3 : Int32) (x4 : Int32) (x5 : Int32) (N : Tw) (T : Tw) (K11 : Int32 → Tw → Option (Int32 × Tw)) (K58 : Tw → Option (Int32 × Tw)) : Option (Int32 × Tw) :=
  if (T.1 6) ≤ x5 then (
    K58 N
  ) else (
    bn (f_X7_hasBit x3 x5) fun r23 =>
    if r23 = 0 then (
      f_X1_canBear_52 x2 x3 x4 x5 N T K11
    ) else (
      gi (x5) 8 <|
      gi (x5) 8 <|
      bn (f_X5_addLoan x2 ((T.2 8) (x5).toNatClampNeg) ((T.2 9) (x5).toNatClampNeg) N) fun r48 =>
      f_X1_canBear_52 x2 x3 x4 x5 r48.2 T K11
    )
  )
set_option maxHeartbeats 4000000 in
set_option maxRecDepth 100000 in
theorem b_X1_canBear_11 {p : Program} {l : Launch} {e : Env} {s : State} {m : MethodId} {args : Array Value} {below : List Frame} {meth : Method} {c : Code} {Q : State → Prop} {dC : Nat → ClassId} {dI : Nat → Nat → Nat} {cs : Nat → ClassId} {A : Nat → Prop} {a : Nat → Nat} {b : Nat → Nat} {d : Nat → Nat} {res : Int32 × Tw} (C : CallFix p m c cX1_canBear 6 s args wsX1_canBear RX1) (G : GE dC dI cs s) (hA : ∀ q : Nat, s.heap.size ≤ q → A q) {T : Tw} (hR : RTz p l e ({ frames := 4, cells := 0, slots := 0, locals := 88 }) s m args below meth c cX1_canBear Q (dC, dI) A (fun u : Tw => (wF (a 0) (b 0) ++ wT cs b u ++ wT cs d T)) res) (x2 : Int32) (x3 : Int32) (x4 : Int32) (x5 : Int32) (N : Tw) (_ : Tw) {K11 : Int32 → Tw → Option (Int32 × Tw)} {K58 : Tw → Option (Int32 × Tw)} (hK11 : ∀ (x5 : Int32) (N : Tw) (H : Heap) (locs : List Loc) (ls : Array Slot), lv_has ls 6 [(0, .ref (a 0)), (1, .ref (d 0)), (2, .int (x2)), (3, .int (x3)), (4, .int (x4)), (5, .int (x5))] → va_P (dC, dI) vwCl (wF (a 0) (b 0) ++ wT cs b N ++ wT cs d T) H → va_D A (wF (a 0) (b 0) ++ wT cs b N ++ wT cs d T) → va_S A s.heap H locs → K11 x5 N = some res → W p l e ({ frames := 4, cells := 0, slots := 0, locals := 88 }) s m args below meth c H locs 0 0 Q (F0 m 11 ls [])) (hK58 : ∀ (N : Tw) (H : Heap) (locs : List Loc) (ls : Array Slot), lv_has ls 6 [(0, .ref (a 0)), (1, .ref (d 0)), (4, .int (x4))] → va_P (dC, dI) vwCl (wF (a 0) (b 0) ++ wT cs b N ++ wT cs d T) H → va_D A (wF (a 0) (b 0) ++ wT cs b N ++ wT cs d T) → va_S A s.heap H locs → K58 N = some res → W p l e ({ frames := 4, cells := 0, slots := 0, locals := 88 }) s m args below meth c H locs 0 0 Q (F0 m 58 ls [])) (H : Heap) (locs : List Loc) (ls : Array Slot) (hl : lv_has ls 6 [(0, .ref (a 0)), (1, .ref (d 0)), (2, .int (x2)), (3, .int (x3)), (4, .int (x4)), (5, .int (x5))]) (hP : va_P (dC, dI) vwCl (wF (a 0) (b 0) ++ wT cs b N ++ wT cs d T) H) (hD : va_D A (wF (a 0) (b 0) ++ wT cs b N ++ wT cs d T)) (hS : va_S A s.heap H locs) (hf : f_X1_canBear_11 x2 x3 x4 x5 N T K11 K58 = some res) : W p l e ({ frames := 4, cells := 0, slots := 0, locals := 88 }) s m args below meth c H locs 0 0 Q (F0 m 11 ls []) := by
  obtain ⟨hx, hb, hml, hown, hts⟩ := id C
  obtain ⟨hK, hN⟩ := id G
  unfold f_X1_canBear_11 at hf
  refine lv_iload hx hb dX1_canBear_11 (lv_at hl 5 rfl) ?_
  refine lv_aload_n hx hb dX1_canBear_13 rfl (lv_at hl 1 rfl) ?_
  refine va_get (D := (dC, dI)) (ci := 5) (v := .int ((T.1 6))) (C := RX5) (T := TX5) (N := 17) hx hb hts in_X1_canBear_X5 hown hK hP 12 rfl rfl 6 (by decide) (hts (.fieldLink RX1 48 "BackLoans$Town" "offers" "I") (by decide +kernel)) (fun _ h9 => h9) rfl dX1_canBear_14 ?_
  refine lv_icmp_ge (tgt := 58) hx hb dX1_canBear_17 (by decide) (fun c1 => ?_) (fun c1 => ?_)
  · replace hf := it_t c1 hf
    exact hK58 N _ _ _ (lv_sub hl [0, 1, 4] rfl) hP hD hS hf
  · replace hf := it_f c1 hf
    refine lv_iload_n hx hb dX1_canBear_20 rfl (lv_at hl 3 rfl) ?_
    refine lv_iload hx hb dX1_canBear_21 (lv_at hl 5 rfl) ?_
    obtain ⟨r23, hr23, hf⟩ := bn_e hf
    have hPc := hP.sub (ws' := ([] : va_W)) [] rfl
    refine vp_callSi (va_Run.run (va_runSN (As := [.int (x3), .int (x5)]) (rest := []) C (c_X7_hasBit l dC dI cs x3 x5 r23 hr23) ⟨va_cnB 2 hts gX1_canBear_X7_hasBit_n63 rfl rfl rfl (hN (RX1, 63, yX7_hasBit, RX7) (by decide +kernel)) (hts (.initialized RX7) (by decide +kernel)) (by decide +kernel) ⟨Nat.le_of_ble_eq_true rfl, Nat.le_of_ble_eq_true rfl⟩, (hts (.static yX7_hasBit) (by decide +kernel)), trivial⟩ ⟨(fun a U g mk q => ⟨q.1, q.2.1, GE.calling q.2.2⟩), (fun U hU hW => ⟨rfl, by rw [hU]; exact hPc, GE.warm hW G⟩)⟩ rfl rfl hl.1 rfl (lv_room (Nat.le_of_ble_eq_true rfl)) dX1_canBear_23 ⟨Nat.le_of_ble_eq_true rfl, Nat.le_of_ble_eq_true rfl⟩)) (fun qr23 hqr23 => ?_)
    obtain ⟨hqr23, hnr23⟩ := hqr23
    obtain rfl := hqr23.symm
    refine lv_if_eq (tgt := 52) hx hb dX1_canBear_26 (by decide) (fun c2 => ?_) (fun c2 => ?_)
    · replace hf := it_t c2 hf
      exact b_X1_canBear_52 C G hA hR x2 x3 x4 x5 N T hK11 _ _ _ (lv_sub hl [0, 1, 2, 3, 4, 5] rfl) hP hD hS hf
    · replace hf := it_f c2 hf
      refine lv_aload_n hx hb dX1_canBear_29 rfl (lv_at hl 0 rfl) ?_
      refine va_get (D := (dC, dI)) (ci := 1) (v := .ref (b 0)) (C := RX1) (T := TX1) (N := 1) hx hb hts in_X1_canBear_X1 hown hK hP 0 rfl rfl 0 (by decide) (hts (.fieldLink RX1 12 "BackLoans$Foresight" "trial" "LBackLoans$Town;") (by decide +kernel)) (fun _ h9 => h9) rfl dX1_canBear_30 ?_
      refine lv_iload_n hx hb dX1_canBear_33 rfl (lv_at hl 2 rfl) ?_
      refine lv_aload_n hx hb dX1_canBear_34 rfl (lv_at hl 1 rfl) ?_
      refine va_get (D := (dC, dI)) (ci := 5) (v := .ref (d 9)) (C := RX5) (T := TX5) (N := 17) hx hb hts in_X1_canBear_X5 hown hK hP 12 rfl rfl 15 (by decide) (hts (.fieldLink RX1 67 "BackLoans$Town" "offerPence" "[I") (by decide +kernel)) (fun _ h9 => h9) rfl dX1_canBear_35 ?_
      refine lv_iload hx hb dX1_canBear_38 (lv_at hl 5 rfl) ?_
      obtain ⟨hi3, hf⟩ := gi_e hf
      refine va_iald hx hb hK hP 21 0 rfl rfl hi3 dX1_canBear_40 ?_
      refine lv_aload_n hx hb dX1_canBear_41 rfl (lv_at hl 1 rfl) ?_
      refine va_get (D := (dC, dI)) (ci := 5) (v := .ref (d 10)) (C := RX5) (T := TX5) (N := 17) hx hb hts in_X1_canBear_X5 hown hK hP 12 rfl rfl 16 (by decide) (hts (.fieldLink RX1 71 "BackLoans$Town" "offerTimes" "[I") (by decide +kernel)) (fun _ h9 => h9) rfl dX1_canBear_42 ?_
      refine lv_iload hx hb dX1_canBear_45 (lv_at hl 5 rfl) ?_
      obtain ⟨hi4, hf⟩ := gi_e hf
      refine va_iald hx hb hK hP 22 0 rfl rfl hi4 dX1_canBear_47 ?_
      obtain ⟨r48, hr48, hf⟩ := bn_e hf
      have hPc := hP.sub (ws' := (wT cs b N)) [1, 2, 3, 4, 5, 6, 7, 8, 9, 10, 11] rfl
      have hDc := hD.sub (ws' := (wT cs b N)) [1, 2, 3, 4, 5, 6, 7, 8, 9, 10, 11] (by decide) rfl
      have hFc := va_free (wc := (wT cs b N)) hD hS hA [1, 2, 3, 4, 5, 6, 7, 8, 9, 10, 11] rfl
      refine va_calli (va_runV (As := [.int (x2), .int (((T.2 8) (x5).toNatClampNeg)), .int (((T.2 9) (x5).toNatClampNeg))]) (rest := []) C (c_X5_addLoan l dC dI cs b H.size N x2 ((T.2 8) (x5).toNatClampNeg) ((T.2 9) (x5).toNatClampNeg) r48 hr48) (cwV 3 hts gX1_canBear_X5_addLoan rfl rfl rfl (by decide +kernel) ⟨Nat.le_of_ble_eq_true rfl, Nat.le_of_ble_eq_true rfl⟩) ⟨(fun a U g mk q => ⟨q.1, q.2.1, q.2.2.1, GE.calling q.2.2.2.1, q.2.2.2.2⟩), va_recv hK hPc (ci := 5) (q0 := 0) rfl rfl, (fun U hU hW => ⟨rfl, by rw [hU], by rw [hU]; exact hPc, GE.warm hW G, hDc.weaken (fun _ _ _ _ => trivial)⟩)⟩ rfl rfl hl.1 rfl (lv_room (Nat.le_of_ble_eq_true rfl)) dX1_canBear_48 ⟨Nat.le_of_ble_eq_true rfl, Nat.le_of_ble_eq_true rfl⟩) hS (fun q _ h => hFc q h) hFc (fun q u t H1 locs ht hvm hw hB hz1 hk1 hS => ?_)
      obtain ⟨rfl, rfl⟩ := hw
      obtain ⟨hP1, hD1⟩ := hB
      rw [ht] at hP1
      obtain ⟨hP, hD⟩ := va_join (wr := [0, 12, 13, 14, 15, 16, 17, 18, 19, 20, 21, 22].filterMap (fun i => ((wF (a 0) (b 0) ++ wT cs b N ++ wT cs d T))[i]?)) (w1 := (wT cs b r48.2)) hP hD [1, 2, 3, 4, 5, 6, 7, 8, 9, 10, 11] [0, 12, 13, 14, 15, 16, 17, 18, 19, 20, 21, 22] rfl rfl (by decide) (by decide) hk1 hFc hP1 hD1
      generalize H1 = H at hP hS ⊢
      have hP := hP.sub (ws' := (wF (a 0) (b 0) ++ wT cs b r48.2 ++ wT cs d T)) [0, 12, 13, 14, 15, 16, 17, 18, 19, 20, 21, 22, 1, 2, 3, 4, 5, 6, 7, 8, 9, 10, 11] rfl
      have hD := hD.sub (ws' := (wF (a 0) (b 0) ++ wT cs b r48.2 ++ wT cs d T)) [0, 12, 13, 14, 15, 16, 17, 18, 19, 20, 21, 22, 1, 2, 3, 4, 5, 6, 7, 8, 9, 10, 11] (by decide) rfl
      refine lv_pop hx hb dX1_canBear_51 rfl ?_
      exact b_X1_canBear_52 C G hA hR x2 x3 x4 x5 r48.2 T hK11 _ _ _ (lv_sub hl [0, 1, 2, 3, 4, 5] rfl) hP hD hS hf
def l_X1_canBear_11 (x2 : Int32) (x3 : Int32) (x4 : Int32) (T : Tw) (K58 : Tw → Option (Int32 × Tw)) (n : Nat) (x5 : Int32) (N : Tw) : Option (Int32 × Tw) := itr (fun (k : Int32 × Tw → Option (Int32 × Tw)) (z : Int32 × Tw) => f_X1_canBear_11 x2 x3 x4 z.1 z.2 T (fun x5 N => k (x5, N)) K58) n (x5, N)
set_option maxHeartbeats 4000000 in
set_option maxRecDepth 100000 in
theorem w_X1_canBear_11 {p : Program} {l : Launch} {e : Env} {s : State} {m : MethodId} {args : Array Value} {below : List Frame} {meth : Method} {c : Code} {Q : State → Prop} {dC : Nat → ClassId} {dI : Nat → Nat → Nat} {cs : Nat → ClassId} {A : Nat → Prop} {a : Nat → Nat} {b : Nat → Nat} {d : Nat → Nat} {res : Int32 × Tw} (C : CallFix p m c cX1_canBear 6 s args wsX1_canBear RX1) (G : GE dC dI cs s) (hA : ∀ q : Nat, s.heap.size ≤ q → A q) {T : Tw} (hR : RTz p l e ({ frames := 4, cells := 0, slots := 0, locals := 88 }) s m args below meth c cX1_canBear Q (dC, dI) A (fun u : Tw => (wF (a 0) (b 0) ++ wT cs b u ++ wT cs d T)) res) (x2 : Int32) (x3 : Int32) (x4 : Int32) (_ : Tw) {K58 : Tw → Option (Int32 × Tw)} (hK58 : ∀ (N : Tw) (H : Heap) (locs : List Loc) (ls : Array Slot), lv_has ls 6 [(0, .ref (a 0)), (1, .ref (d 0)), (4, .int (x4))] → va_P (dC, dI) vwCl (wF (a 0) (b 0) ++ wT cs b N ++ wT cs d T) H → va_D A (wF (a 0) (b 0) ++ wT cs b N ++ wT cs d T) → va_S A s.heap H locs → K58 N = some res → W p l e ({ frames := 4, cells := 0, slots := 0, locals := 88 }) s m args below meth c H locs 0 0 Q (F0 m 58 ls [])) : ∀ (n : Nat) (x5 : Int32) (N : Tw) (H : Heap) (locs : List Loc) (ls : Array Slot), lv_has ls 6 [(0, .ref (a 0)), (1, .ref (d 0)), (2, .int (x2)), (3, .int (x3)), (4, .int (x4)), (5, .int (x5))] → va_P (dC, dI) vwCl (wF (a 0) (b 0) ++ wT cs b N ++ wT cs d T) H → va_D A (wF (a 0) (b 0) ++ wT cs b N ++ wT cs d T) → va_S A s.heap H locs → l_X1_canBear_11 x2 x3 x4 T K58 n x5 N = some res → W p l e ({ frames := 4, cells := 0, slots := 0, locals := 88 }) s m args below meth c H locs 0 0 Q (F0 m 11 ls []) := by
  intro n
  induction n with
  | zero => intro x5 N H locs ls hl hP hD hS hf; exact absurd hf (by simp [l_X1_canBear_11, itr])
  | succ n ih => intro x5 N H locs ls hl hP hD hS hf; exact b_X1_canBear_11 C G hA hR x2 x3 x4 x5 N T (K11 := fun x5 N => l_X1_canBear_11 x2 x3 x4 T K58 n x5 N) (fun x5 N H locs ls hl hP hD hS hf => ih x5 N H locs ls hl hP hD hS hf) hK58 H locs ls hl hP hD hS hf
def f_X1_canBear_61 (x4 : Int32) (x5 : Int32) (N : Tw) (T : Tw) (K61 : Int32 → Tw → Option (Int32 × Tw)) (K82 : Tw → Option (Int32 × Tw)) : Option (Int32 × Tw) :=
  if (12 : Int32) ≤ x5 then (
    K82 N
  ) else (
    bn (f_X5_liveMonth (0 : Int32) N) fun r73 =>
    lett (x5 + 1) fun x5_76 =>
    K61 x5_76 r73
  )
set_option maxHeartbeats 4000000 in
set_option maxRecDepth 100000 in
theorem b_X1_canBear_61 {p : Program} {l : Launch} {e : Env} {s : State} {m : MethodId} {args : Array Value} {below : List Frame} {meth : Method} {c : Code} {Q : State → Prop} {dC : Nat → ClassId} {dI : Nat → Nat → Nat} {cs : Nat → ClassId} {A : Nat → Prop} {a : Nat → Nat} {b : Nat → Nat} {d : Nat → Nat} {res : Int32 × Tw} (C : CallFix p m c cX1_canBear 6 s args wsX1_canBear RX1) (G : GE dC dI cs s) (hA : ∀ q : Nat, s.heap.size ≤ q → A q) {T : Tw} (hR : RTz p l e ({ frames := 4, cells := 0, slots := 0, locals := 88 }) s m args below meth c cX1_canBear Q (dC, dI) A (fun u : Tw => (wF (a 0) (b 0) ++ wT cs b u ++ wT cs d T)) res) (x4 : Int32) (x5 : Int32) (N : Tw) (_ : Tw) {K61 : Int32 → Tw → Option (Int32 × Tw)} {K82 : Tw → Option (Int32 × Tw)} (hK61 : ∀ (x5 : Int32) (N : Tw) (H : Heap) (locs : List Loc) (ls : Array Slot), lv_has ls 6 [(0, .ref (a 0)), (1, .ref (d 0)), (4, .int (x4)), (5, .int (x5))] → va_P (dC, dI) vwCl (wF (a 0) (b 0) ++ wT cs b N ++ wT cs d T) H → va_D A (wF (a 0) (b 0) ++ wT cs b N ++ wT cs d T) → va_S A s.heap H locs → K61 x5 N = some res → W p l e ({ frames := 4, cells := 0, slots := 0, locals := 88 }) s m args below meth c H locs 0 0 Q (F0 m 61 ls [])) (hK82 : ∀ (N : Tw) (H : Heap) (locs : List Loc) (ls : Array Slot), lv_has ls 6 [(0, .ref (a 0)), (1, .ref (d 0)), (4, .int (x4))] → va_P (dC, dI) vwCl (wF (a 0) (b 0) ++ wT cs b N ++ wT cs d T) H → va_D A (wF (a 0) (b 0) ++ wT cs b N ++ wT cs d T) → va_S A s.heap H locs → K82 N = some res → W p l e ({ frames := 4, cells := 0, slots := 0, locals := 88 }) s m args below meth c H locs 0 0 Q (F0 m 82 ls [])) (H : Heap) (locs : List Loc) (ls : Array Slot) (hl : lv_has ls 6 [(0, .ref (a 0)), (1, .ref (d 0)), (4, .int (x4)), (5, .int (x5))]) (hP : va_P (dC, dI) vwCl (wF (a 0) (b 0) ++ wT cs b N ++ wT cs d T) H) (hD : va_D A (wF (a 0) (b 0) ++ wT cs b N ++ wT cs d T)) (hS : va_S A s.heap H locs) (hf : f_X1_canBear_61 x4 x5 N T K61 K82 = some res) : W p l e ({ frames := 4, cells := 0, slots := 0, locals := 88 }) s m args below meth c H locs 0 0 Q (F0 m 61 ls []) := by
  obtain ⟨hx, hb, hml, hown, hts⟩ := id C
  obtain ⟨hK, hN⟩ := id G
  unfold f_X1_canBear_61 at hf
  refine lv_iload hx hb dX1_canBear_61 (lv_at hl 3 rfl) ?_
  refine lv_bipush (v := 12) hx hb dX1_canBear_63 (by decide) ?_
  refine lv_icmp_ge (tgt := 82) hx hb dX1_canBear_65 (by decide) (fun c1 => ?_) (fun c1 => ?_)
  · replace hf := it_t c1 hf
    exact hK82 N _ _ _ (lv_sub hl [0, 1, 2] rfl) hP hD hS hf
  · replace hf := it_f c1 hf
    refine lv_aload_n hx hb dX1_canBear_68 rfl (lv_at hl 0 rfl) ?_
    refine va_get (D := (dC, dI)) (ci := 1) (v := .ref (b 0)) (C := RX1) (T := TX1) (N := 1) hx hb hts in_X1_canBear_X1 hown hK hP 0 rfl rfl 0 (by decide) (hts (.fieldLink RX1 12 "BackLoans$Foresight" "trial" "LBackLoans$Town;") (by decide +kernel)) (fun _ h9 => h9) rfl dX1_canBear_69 ?_
    refine lv_iconst (v := 0) hx hb dX1_canBear_72 (by decide) ?_
    obtain ⟨r73, hr73, hf⟩ := bn_e hf
    have hPc := hP.sub (ws' := (wT cs b N)) [1, 2, 3, 4, 5, 6, 7, 8, 9, 10, 11] rfl
    have hDc := hD.sub (ws' := (wT cs b N)) [1, 2, 3, 4, 5, 6, 7, 8, 9, 10, 11] (by decide) rfl
    have hFc := va_free (wc := (wT cs b N)) hD hS hA [1, 2, 3, 4, 5, 6, 7, 8, 9, 10, 11] rfl
    refine va_callv (va_runV (As := [.int ((0 : Int32))]) (rest := []) C (c_X5_liveMonth l dC dI cs b H.size N (0 : Int32) r73 hr73) (cwV 1 hts gX1_canBear_X5_liveMonth rfl rfl rfl (by decide +kernel) ⟨Nat.le_of_ble_eq_true rfl, Nat.le_of_ble_eq_true rfl⟩) ⟨(fun a U g mk q => ⟨q.1, q.2.1, q.2.2.1, GE.calling q.2.2.2.1, q.2.2.2.2⟩), va_recv hK hPc (ci := 5) (q0 := 0) rfl rfl, (fun U hU hW => ⟨rfl, by rw [hU], by rw [hU]; exact hPc, GE.warm hW G, hDc.weaken (fun _ _ _ _ => trivial)⟩)⟩ rfl rfl hl.1 rfl (lv_room (Nat.le_of_ble_eq_true rfl)) dX1_canBear_73 ⟨Nat.le_of_ble_eq_true rfl, Nat.le_of_ble_eq_true rfl⟩) hS (fun q _ h => hFc q h) hFc (fun u t H1 locs ht hvm hw hB hz1 hk1 hS => ?_)
    obtain rfl := hw.symm
    obtain ⟨hP1, hD1⟩ := hB
    rw [ht] at hP1
    obtain ⟨hP, hD⟩ := va_join (wr := [0, 12, 13, 14, 15, 16, 17, 18, 19, 20, 21, 22].filterMap (fun i => ((wF (a 0) (b 0) ++ wT cs b N ++ wT cs d T))[i]?)) (w1 := (wT cs b r73)) hP hD [1, 2, 3, 4, 5, 6, 7, 8, 9, 10, 11] [0, 12, 13, 14, 15, 16, 17, 18, 19, 20, 21, 22] rfl rfl (by decide) (by decide) hk1 hFc hP1 hD1
    generalize H1 = H at hP hS ⊢
    have hP := hP.sub (ws' := (wF (a 0) (b 0) ++ wT cs b r73 ++ wT cs d T)) [0, 12, 13, 14, 15, 16, 17, 18, 19, 20, 21, 22, 1, 2, 3, 4, 5, 6, 7, 8, 9, 10, 11] rfl
    have hD := hD.sub (ws' := (wF (a 0) (b 0) ++ wT cs b r73 ++ wT cs d T)) [0, 12, 13, 14, 15, 16, 17, 18, 19, 20, 21, 22, 1, 2, 3, 4, 5, 6, 7, 8, 9, 10, 11] (by decide) rfl
    obtain ⟨x5_76, ex5_76⟩ : ∃ y : Int32, y = (x5 + 1) := ⟨_, rfl⟩
    replace hf := lett_s ex5_76 hf
    refine lv_iinc (v := x5_76) (lv' := [(5, .int (x5_76)), (0, .ref (a 0)), (1, .ref (d 0)), (4, .int (x4))]) hx hb dX1_canBear_76 hl (k := 3) rfl (by rw [ex5_76]; rfl) (by decide) rfl (fun ls hl => ?_)
    refine lv_goto (tgt := 61) hx hb dX1_canBear_79 (by decide) ?_
    exact hK61 x5_76 r73 _ _ _ (lv_sub hl [1, 2, 3, 0] rfl) hP hD hS hf
def l_X1_canBear_61 (x4 : Int32) (T : Tw) (K82 : Tw → Option (Int32 × Tw)) (n : Nat) (x5 : Int32) (N : Tw) : Option (Int32 × Tw) := itr (fun (k : Int32 × Tw → Option (Int32 × Tw)) (z : Int32 × Tw) => f_X1_canBear_61 x4 z.1 z.2 T (fun x5 N => k (x5, N)) K82) n (x5, N)
set_option maxHeartbeats 4000000 in
set_option maxRecDepth 100000 in
theorem w_X1_canBear_61 {p : Program} {l : Launch} {e : Env} {s : State} {m : MethodId} {args : Array Value} {below : List Frame} {meth : Method} {c : Code} {Q : State → Prop} {dC : Nat → ClassId} {dI : Nat → Nat → Nat} {cs : Nat → ClassId} {A : Nat → Prop} {a : Nat → Nat} {b : Nat → Nat} {d : Nat → Nat} {res : Int32 × Tw} (C : CallFix p m c cX1_canBear 6 s args wsX1_canBear RX1) (G : GE dC dI cs s) (hA : ∀ q : Nat, s.heap.size ≤ q → A q) {T : Tw} (hR : RTz p l e ({ frames := 4, cells := 0, slots := 0, locals := 88 }) s m args below meth c cX1_canBear Q (dC, dI) A (fun u : Tw => (wF (a 0) (b 0) ++ wT cs b u ++ wT cs d T)) res) (x4 : Int32) (_ : Tw) {K82 : Tw → Option (Int32 × Tw)} (hK82 : ∀ (N : Tw) (H : Heap) (locs : List Loc) (ls : Array Slot), lv_has ls 6 [(0, .ref (a 0)), (1, .ref (d 0)), (4, .int (x4))] → va_P (dC, dI) vwCl (wF (a 0) (b 0) ++ wT cs b N ++ wT cs d T) H → va_D A (wF (a 0) (b 0) ++ wT cs b N ++ wT cs d T) → va_S A s.heap H locs → K82 N = some res → W p l e ({ frames := 4, cells := 0, slots := 0, locals := 88 }) s m args below meth c H locs 0 0 Q (F0 m 82 ls [])) : ∀ (n : Nat) (x5 : Int32) (N : Tw) (H : Heap) (locs : List Loc) (ls : Array Slot), lv_has ls 6 [(0, .ref (a 0)), (1, .ref (d 0)), (4, .int (x4)), (5, .int (x5))] → va_P (dC, dI) vwCl (wF (a 0) (b 0) ++ wT cs b N ++ wT cs d T) H → va_D A (wF (a 0) (b 0) ++ wT cs b N ++ wT cs d T) → va_S A s.heap H locs → l_X1_canBear_61 x4 T K82 n x5 N = some res → W p l e ({ frames := 4, cells := 0, slots := 0, locals := 88 }) s m args below meth c H locs 0 0 Q (F0 m 61 ls []) := by
  intro n
  induction n with
  | zero => intro x5 N H locs ls hl hP hD hS hf; exact absurd hf (by simp [l_X1_canBear_61, itr])
  | succ n ih => intro x5 N H locs ls hl hP hD hS hf; exact b_X1_canBear_61 C G hA hR x4 x5 N T (K61 := fun x5 N => l_X1_canBear_61 x4 T K82 n x5 N) (fun x5 N H locs ls hl hP hD hS hf => ih x5 N H locs ls hl hP hD hS hf) hK82 H locs ls hl hP hD hS hf
def f_X1_canBear_88 (x4 : Int32) (x5 : Int32) (N : Tw) (T : Tw) (K88 : Int32 → Option (Int32 × Tw)) (K122 : Option (Int32 × Tw)) : Option (Int32 × Tw) :=
  if (N.1 5) ≤ x5 then (
    K122
  ) else (
    gi (x5) 8 <|
    if ((N.2 6) (x5).toNatClampNeg) = (2 : Int32) then (
      some ((0 : Int32), N)
    ) else (
      lett (x5 + 1) fun x5_116 =>
      K88 x5_116
    )
  )
set_option maxHeartbeats 4000000 in
set_option maxRecDepth 100000 in
theorem b_X1_canBear_88 {p : Program} {l : Launch} {e : Env} {s : State} {m : MethodId} {args : Array Value} {below : List Frame} {meth : Method} {c : Code} {Q : State → Prop} {dC : Nat → ClassId} {dI : Nat → Nat → Nat} {cs : Nat → ClassId} {A : Nat → Prop} {a : Nat → Nat} {b : Nat → Nat} {d : Nat → Nat} {res : Int32 × Tw} (C : CallFix p m c cX1_canBear 6 s args wsX1_canBear RX1) (G : GE dC dI cs s) (hA : ∀ q : Nat, s.heap.size ≤ q → A q) {T : Tw} (hR : RTz p l e ({ frames := 4, cells := 0, slots := 0, locals := 88 }) s m args below meth c cX1_canBear Q (dC, dI) A (fun u : Tw => (wF (a 0) (b 0) ++ wT cs b u ++ wT cs d T)) res) (x4 : Int32) (x5 : Int32) (N : Tw) (_ : Tw) {K88 : Int32 → Option (Int32 × Tw)} {K122 : Option (Int32 × Tw)} (hK88 : ∀ (x5 : Int32) (H : Heap) (locs : List Loc) (ls : Array Slot), lv_has ls 6 [(0, .ref (a 0)), (4, .int (x4)), (5, .int (x5))] → va_P (dC, dI) vwCl (wF (a 0) (b 0) ++ wT cs b N ++ wT cs d T) H → va_D A (wF (a 0) (b 0) ++ wT cs b N ++ wT cs d T) → va_S A s.heap H locs → K88 x5 = some res → W p l e ({ frames := 4, cells := 0, slots := 0, locals := 88 }) s m args below meth c H locs 0 0 Q (F0 m 88 ls [])) (hK122 : ∀ (H : Heap) (locs : List Loc) (ls : Array Slot), lv_has ls 6 [(0, .ref (a 0)), (4, .int (x4))] → va_P (dC, dI) vwCl (wF (a 0) (b 0) ++ wT cs b N ++ wT cs d T) H → va_D A (wF (a 0) (b 0) ++ wT cs b N ++ wT cs d T) → va_S A s.heap H locs → K122 = some res → W p l e ({ frames := 4, cells := 0, slots := 0, locals := 88 }) s m args below meth c H locs 0 0 Q (F0 m 122 ls [])) (H : Heap) (locs : List Loc) (ls : Array Slot) (hl : lv_has ls 6 [(0, .ref (a 0)), (4, .int (x4)), (5, .int (x5))]) (hP : va_P (dC, dI) vwCl (wF (a 0) (b 0) ++ wT cs b N ++ wT cs d T) H) (hD : va_D A (wF (a 0) (b 0) ++ wT cs b N ++ wT cs d T)) (hS : va_S A s.heap H locs) (hf : f_X1_canBear_88 x4 x5 N T K88 K122 = some res) : W p l e ({ frames := 4, cells := 0, slots := 0, locals := 88 }) s m args below meth c H locs 0 0 Q (F0 m 88 ls []) := by
  obtain ⟨hx, hb, hml, hown, hts⟩ := id C
  obtain ⟨hK, hN⟩ := id G
  unfold f_X1_canBear_88 at hf
  refine lv_iload hx hb dX1_canBear_88 (lv_at hl 2 rfl) ?_
  refine lv_aload_n hx hb dX1_canBear_90 rfl (lv_at hl 0 rfl) ?_
  refine va_get (D := (dC, dI)) (ci := 1) (v := .ref (b 0)) (C := RX1) (T := TX1) (N := 1) hx hb hts in_X1_canBear_X1 hown hK hP 0 rfl rfl 0 (by decide) (hts (.fieldLink RX1 12 "BackLoans$Foresight" "trial" "LBackLoans$Town;") (by decide +kernel)) (fun _ h9 => h9) rfl dX1_canBear_91 ?_
  refine va_get (D := (dC, dI)) (ci := 5) (v := .int ((N.1 5))) (C := RX5) (T := TX5) (N := 17) hx hb hts in_X1_canBear_X5 hown hK hP 1 rfl rfl 5 (by decide) (hts (.fieldLink RX1 37 "BackLoans$Town" "loans" "I") (by decide +kernel)) (fun _ h9 => h9) rfl dX1_canBear_94 ?_
  refine lv_icmp_ge (tgt := 122) hx hb dX1_canBear_97 (by decide) (fun c1 => ?_) (fun c1 => ?_)
  · replace hf := it_t c1 hf
    exact hK122 _ _ _ (lv_sub hl [0, 1] rfl) hP hD hS hf
  · replace hf := it_f c1 hf
    refine lv_aload_n hx hb dX1_canBear_100 rfl (lv_at hl 0 rfl) ?_
    refine va_get (D := (dC, dI)) (ci := 1) (v := .ref (b 0)) (C := RX1) (T := TX1) (N := 1) hx hb hts in_X1_canBear_X1 hown hK hP 0 rfl rfl 0 (by decide) (hts (.fieldLink RX1 12 "BackLoans$Foresight" "trial" "LBackLoans$Town;") (by decide +kernel)) (fun _ h9 => h9) rfl dX1_canBear_101 ?_
    refine va_get (D := (dC, dI)) (ci := 5) (v := .ref (b 7)) (C := RX5) (T := TX5) (N := 17) hx hb hts in_X1_canBear_X5 hown hK hP 1 rfl rfl 13 (by decide) (hts (.fieldLink RX1 78 "BackLoans$Town" "state" "[I") (by decide +kernel)) (fun _ h9 => h9) rfl dX1_canBear_104 ?_
    refine lv_iload hx hb dX1_canBear_107 (lv_at hl 2 rfl) ?_
    obtain ⟨hi2, hf⟩ := gi_e hf
    refine va_iald hx hb hK hP 8 0 rfl rfl hi2 dX1_canBear_109 ?_
    refine lv_iconst (v := 2) hx hb dX1_canBear_110 (by decide) ?_
    refine lv_icmp_ne (tgt := 116) hx hb dX1_canBear_111 (by decide) (fun c3 => ?_) (fun c3 => ?_)
    · replace hf := it_f c3 hf
      obtain ⟨x5_116, ex5_116⟩ : ∃ y : Int32, y = (x5 + 1) := ⟨_, rfl⟩
      replace hf := lett_s ex5_116 hf
      refine lv_iinc (v := x5_116) (lv' := [(5, .int (x5_116)), (0, .ref (a 0)), (4, .int (x4))]) hx hb dX1_canBear_116 hl (k := 2) rfl (by rw [ex5_116]; rfl) (by decide) rfl (fun ls hl => ?_)
      refine lv_goto (tgt := 88) hx hb dX1_canBear_119 (by decide) ?_
      exact hK88 x5_116 _ _ _ (lv_sub hl [1, 2, 0] rfl) hP hD hS hf
    · replace hf := it_t c3 hf
      refine lv_iconst (v := 0) hx hb dX1_canBear_114 (by decide) ?_
      exact hR _ _ _ _ _ _ dX1_canBear_115 (by decide) hf hP hD hS
def l_X1_canBear_88 (x4 : Int32) (N : Tw) (T : Tw) (K122 : Option (Int32 × Tw)) (n : Nat) (x5 : Int32) : Option (Int32 × Tw) := itr (fun (k : Int32 → Option (Int32 × Tw)) (z : Int32) => f_X1_canBear_88 x4 z N T (fun x5 => k x5) K122) n x5
set_option maxHeartbeats 4000000 in
set_option maxRecDepth 100000 in
theorem w_X1_canBear_88 {p : Program} {l : Launch} {e : Env} {s : State} {m : MethodId} {args : Array Value} {below : List Frame} {meth : Method} {c : Code} {Q : State → Prop} {dC : Nat → ClassId} {dI : Nat → Nat → Nat} {cs : Nat → ClassId} {A : Nat → Prop} {a : Nat → Nat} {b : Nat → Nat} {d : Nat → Nat} {res : Int32 × Tw} (C : CallFix p m c cX1_canBear 6 s args wsX1_canBear RX1) (G : GE dC dI cs s) (hA : ∀ q : Nat, s.heap.size ≤ q → A q) {T : Tw} (hR : RTz p l e ({ frames := 4, cells := 0, slots := 0, locals := 88 }) s m args below meth c cX1_canBear Q (dC, dI) A (fun u : Tw => (wF (a 0) (b 0) ++ wT cs b u ++ wT cs d T)) res) (x4 : Int32) (N : Tw) (_ : Tw) {K122 : Option (Int32 × Tw)} (hK122 : ∀ (H : Heap) (locs : List Loc) (ls : Array Slot), lv_has ls 6 [(0, .ref (a 0)), (4, .int (x4))] → va_P (dC, dI) vwCl (wF (a 0) (b 0) ++ wT cs b N ++ wT cs d T) H → va_D A (wF (a 0) (b 0) ++ wT cs b N ++ wT cs d T) → va_S A s.heap H locs → K122 = some res → W p l e ({ frames := 4, cells := 0, slots := 0, locals := 88 }) s m args below meth c H locs 0 0 Q (F0 m 122 ls [])) : ∀ (n : Nat) (x5 : Int32) (H : Heap) (locs : List Loc) (ls : Array Slot), lv_has ls 6 [(0, .ref (a 0)), (4, .int (x4)), (5, .int (x5))] → va_P (dC, dI) vwCl (wF (a 0) (b 0) ++ wT cs b N ++ wT cs d T) H → va_D A (wF (a 0) (b 0) ++ wT cs b N ++ wT cs d T) → va_S A s.heap H locs → l_X1_canBear_88 x4 N T K122 n x5 = some res → W p l e ({ frames := 4, cells := 0, slots := 0, locals := 88 }) s m args below meth c H locs 0 0 Q (F0 m 88 ls []) := by
  intro n
  induction n with
  | zero => intro x5 H locs ls hl hP hD hS hf; exact absurd hf (by simp [l_X1_canBear_88, itr])
  | succ n ih => intro x5 H locs ls hl hP hD hS hf; exact b_X1_canBear_88 C G hA hR x4 x5 N T (K88 := fun x5 => l_X1_canBear_88 x4 N T K122 n x5) (fun x5 H locs ls hl hP hD hS hf => ih x5 H locs ls hl hP hD hS hf) hK122 H locs ls hl hP hD hS hf
def f_X1_canBear_122 (x4 : Int32) (N : Tw) (T : Tw)  : Option (Int32 × Tw) :=
  bn (f_X5_howManyAre (2 : Int32) N) fun r127 =>
  if x4 < r127 then (
    some ((0 : Int32), N)
  ) else (
    some ((1 : Int32), N)
  )
set_option maxHeartbeats 4000000 in
set_option maxRecDepth 100000 in
theorem b_X1_canBear_122 {p : Program} {l : Launch} {e : Env} {s : State} {m : MethodId} {args : Array Value} {below : List Frame} {meth : Method} {c : Code} {Q : State → Prop} {dC : Nat → ClassId} {dI : Nat → Nat → Nat} {cs : Nat → ClassId} {A : Nat → Prop} {a : Nat → Nat} {b : Nat → Nat} {d : Nat → Nat} {res : Int32 × Tw} (C : CallFix p m c cX1_canBear 6 s args wsX1_canBear RX1) (G : GE dC dI cs s) (hA : ∀ q : Nat, s.heap.size ≤ q → A q) {T : Tw} (hR : RTz p l e ({ frames := 4, cells := 0, slots := 0, locals := 88 }) s m args below meth c cX1_canBear Q (dC, dI) A (fun u : Tw => (wF (a 0) (b 0) ++ wT cs b u ++ wT cs d T)) res) (x4 : Int32) (N : Tw) (_ : Tw)   (H : Heap) (locs : List Loc) (ls : Array Slot) (hl : lv_has ls 6 [(0, .ref (a 0)), (4, .int (x4))]) (hP : va_P (dC, dI) vwCl (wF (a 0) (b 0) ++ wT cs b N ++ wT cs d T) H) (hD : va_D A (wF (a 0) (b 0) ++ wT cs b N ++ wT cs d T)) (hS : va_S A s.heap H locs) (hf : f_X1_canBear_122 x4 N T = some res) : W p l e ({ frames := 4, cells := 0, slots := 0, locals := 88 }) s m args below meth c H locs 0 0 Q (F0 m 122 ls []) := by
  obtain ⟨hx, hb, hml, hown, hts⟩ := id C
  obtain ⟨hK, hN⟩ := id G
  unfold f_X1_canBear_122 at hf
  refine lv_aload_n hx hb dX1_canBear_122 rfl (lv_at hl 0 rfl) ?_
  refine va_get (D := (dC, dI)) (ci := 1) (v := .ref (b 0)) (C := RX1) (T := TX1) (N := 1) hx hb hts in_X1_canBear_X1 hown hK hP 0 rfl rfl 0 (by decide) (hts (.fieldLink RX1 12 "BackLoans$Foresight" "trial" "LBackLoans$Town;") (by decide +kernel)) (fun _ h9 => h9) rfl dX1_canBear_123 ?_
  refine lv_iconst (v := 2) hx hb dX1_canBear_126 (by decide) ?_
  obtain ⟨r127, hr127, hf⟩ := bn_e hf
  have hPc := hP.sub (ws' := (wT cs b N)) [1, 2, 3, 4, 5, 6, 7, 8, 9, 10, 11] rfl
  refine vp_callSi (W.runV (As := [.int ((2 : Int32))]) (rest := []) C (c_X5_howManyAre l dC dI cs b N (2 : Int32) r127 hr127) (cwV 1 hts gX1_canBear_X5_howManyAre rfl rfl rfl (by decide +kernel) ⟨Nat.le_of_ble_eq_true rfl, Nat.le_of_ble_eq_true rfl⟩) ⟨(fun a U g mk q => ⟨q.1, q.2.1, GE.calling q.2.2⟩), va_recv hK hPc (ci := 5) (q0 := 0) rfl rfl, (fun U hU hW => ⟨rfl, by rw [hU]; exact hPc, GE.warm hW G⟩)⟩ rfl rfl hl.1 rfl (lv_room (Nat.le_of_ble_eq_true rfl)) dX1_canBear_127 ⟨Nat.le_of_ble_eq_true rfl, Nat.le_of_ble_eq_true rfl⟩) (fun qr127 hqr127 => ?_)
  obtain rfl := hqr127.symm
  refine lv_iload hx hb dX1_canBear_130 (lv_at hl 1 rfl) ?_
  refine lv_icmp_gt (tgt := 139) hx hb dX1_canBear_132 (by decide) (fun c1 => ?_) (fun c1 => ?_)
  · replace hf := it_t c1 hf
    refine lv_iconst (v := 0) hx hb dX1_canBear_139 (by decide) ?_
    exact hR _ _ _ _ _ _ dX1_canBear_140 (by decide) hf hP hD hS
  · replace hf := it_f c1 hf
    refine lv_iconst (v := 1) hx hb dX1_canBear_135 (by decide) ?_
    refine lv_goto (tgt := 140) hx hb dX1_canBear_136 (by decide) ?_
    exact hR _ _ _ _ _ _ dX1_canBear_140 (by decide) hf hP hD hS
def f_X1_canBear_82 (x4 : Int32) (N : Tw) (T : Tw)  : Option (Int32 × Tw) :=
  l_X1_canBear_88 x4 N T (f_X1_canBear_122 x4 N T) FU (T.1 5)
set_option maxHeartbeats 4000000 in
set_option maxRecDepth 100000 in
theorem b_X1_canBear_82 {p : Program} {l : Launch} {e : Env} {s : State} {m : MethodId} {args : Array Value} {below : List Frame} {meth : Method} {c : Code} {Q : State → Prop} {dC : Nat → ClassId} {dI : Nat → Nat → Nat} {cs : Nat → ClassId} {A : Nat → Prop} {a : Nat → Nat} {b : Nat → Nat} {d : Nat → Nat} {res : Int32 × Tw} (C : CallFix p m c cX1_canBear 6 s args wsX1_canBear RX1) (G : GE dC dI cs s) (hA : ∀ q : Nat, s.heap.size ≤ q → A q) {T : Tw} (hR : RTz p l e ({ frames := 4, cells := 0, slots := 0, locals := 88 }) s m args below meth c cX1_canBear Q (dC, dI) A (fun u : Tw => (wF (a 0) (b 0) ++ wT cs b u ++ wT cs d T)) res) (x4 : Int32) (N : Tw) (_ : Tw)   (H : Heap) (locs : List Loc) (ls : Array Slot) (hl : lv_has ls 6 [(0, .ref (a 0)), (1, .ref (d 0)), (4, .int (x4))]) (hP : va_P (dC, dI) vwCl (wF (a 0) (b 0) ++ wT cs b N ++ wT cs d T) H) (hD : va_D A (wF (a 0) (b 0) ++ wT cs b N ++ wT cs d T)) (hS : va_S A s.heap H locs) (hf : f_X1_canBear_82 x4 N T = some res) : W p l e ({ frames := 4, cells := 0, slots := 0, locals := 88 }) s m args below meth c H locs 0 0 Q (F0 m 82 ls []) := by
  obtain ⟨hx, hb, hml, hown, hts⟩ := id C
  obtain ⟨hK, hN⟩ := id G
  unfold f_X1_canBear_82 at hf
  refine lv_aload_n hx hb dX1_canBear_82 rfl (lv_at hl 1 rfl) ?_
  refine va_get (D := (dC, dI)) (ci := 5) (v := .int ((T.1 5))) (C := RX5) (T := TX5) (N := 17) hx hb hts in_X1_canBear_X5 hown hK hP 12 rfl rfl 5 (by decide) (hts (.fieldLink RX1 37 "BackLoans$Town" "loans" "I") (by decide +kernel)) (fun _ h9 => h9) rfl dX1_canBear_83 ?_
  refine lv_istore (lv' := [(5, .int ((T.1 5))), (0, .ref (a 0)), (1, .ref (d 0)), (4, .int (x4))]) hx hb dX1_canBear_86 hl (by decide) rfl (fun ls hl => ?_)
  exact w_X1_canBear_88 C G hA hR x4 N T (fun H locs ls hl hP hD hS hf => b_X1_canBear_122 C G hA hR x4 N T _ _ _ hl hP hD hS hf) FU (T.1 5) _ _ _ (lv_sub hl [1, 3, 0] rfl) hP hD hS hf
def f_X1_canBear_58 (x4 : Int32) (N : Tw) (T : Tw)  : Option (Int32 × Tw) :=
  lett (0 : Int32) fun x5_59 =>
  l_X1_canBear_61 x4 T (fun Nz => f_X1_canBear_82 x4 Nz T) FU x5_59 N
set_option maxHeartbeats 4000000 in
set_option maxRecDepth 100000 in
theorem b_X1_canBear_58 {p : Program} {l : Launch} {e : Env} {s : State} {m : MethodId} {args : Array Value} {below : List Frame} {meth : Method} {c : Code} {Q : State → Prop} {dC : Nat → ClassId} {dI : Nat → Nat → Nat} {cs : Nat → ClassId} {A : Nat → Prop} {a : Nat → Nat} {b : Nat → Nat} {d : Nat → Nat} {res : Int32 × Tw} (C : CallFix p m c cX1_canBear 6 s args wsX1_canBear RX1) (G : GE dC dI cs s) (hA : ∀ q : Nat, s.heap.size ≤ q → A q) {T : Tw} (hR : RTz p l e ({ frames := 4, cells := 0, slots := 0, locals := 88 }) s m args below meth c cX1_canBear Q (dC, dI) A (fun u : Tw => (wF (a 0) (b 0) ++ wT cs b u ++ wT cs d T)) res) (x4 : Int32) (N : Tw) (_ : Tw)   (H : Heap) (locs : List Loc) (ls : Array Slot) (hl : lv_has ls 6 [(0, .ref (a 0)), (1, .ref (d 0)), (4, .int (x4))]) (hP : va_P (dC, dI) vwCl (wF (a 0) (b 0) ++ wT cs b N ++ wT cs d T) H) (hD : va_D A (wF (a 0) (b 0) ++ wT cs b N ++ wT cs d T)) (hS : va_S A s.heap H locs) (hf : f_X1_canBear_58 x4 N T = some res) : W p l e ({ frames := 4, cells := 0, slots := 0, locals := 88 }) s m args below meth c H locs 0 0 Q (F0 m 58 ls []) := by
  obtain ⟨hx, hb, hml, hown, hts⟩ := id C
  obtain ⟨hK, hN⟩ := id G
  unfold f_X1_canBear_58 at hf
  refine lv_iconst (v := 0) hx hb dX1_canBear_58 (by decide) ?_
  refine lv_topi (fun x5_59 ex5_59 => ?_)
  replace hf := lett_s ex5_59 hf
  refine lv_istore (lv' := [(5, .int (x5_59)), (0, .ref (a 0)), (1, .ref (d 0)), (4, .int (x4))]) hx hb dX1_canBear_59 hl (by decide) rfl (fun ls hl => ?_)
  exact w_X1_canBear_61 C G hA hR x4 T (fun Nz H locs ls hl hP hD hS hf => b_X1_canBear_82 C G hA hR x4 Nz T _ _ _ hl hP hD hS hf) FU x5_59 N _ _ _ (lv_sub hl [1, 2, 3, 0] rfl) hP hD hS hf
def f_X1_canBear (x2 : Int32) (x3 : Int32) (x4 : Int32) (N : Tw) (T : Tw) : Option (Int32 × Tw) :=
  bn (f_X5_copyFrom N T) fun r5 =>
  lett (0 : Int32) fun x5_9 =>
  l_X1_canBear_11 x2 x3 x4 T (fun Nz => f_X1_canBear_58 x4 Nz T) FU x5_9 r5
set_option maxHeartbeats 4000000 in
set_option maxRecDepth 100000 in
theorem c_X1_canBear (l : Launch) (dC : Nat → ClassId) (dI : Nat → Nat → Nat) (cs : Nat → ClassId) (a : Nat → Nat) (b : Nat → Nat) (d : Nat → Nat) (sz : Nat) (N : Tw) (T : Tw) (x2 : Int32) (x3 : Int32) (x4 : Int32) (res : Int32 × Tw) (hf : f_X1_canBear x2 x3 x4 N T = some res) : Met l yX1_canBear wsX1_canBear ({ frames := 4, cells := 0, slots := 0, locals := 88 }) (va_Pc [.ref (a 0), .ref (d 0), .int (x2), .int (x3), .int (x4)] (fun U => U.heap.size = sz ∧ va_P (dC, dI) vwCl (wF (a 0) (b 0) ++ wT cs b N ++ wT cs d T) U.heap ∧ GE dC dI cs U ∧ va_D (fun _ => True) (wF (a 0) (b 0) ++ wT cs b N ++ wT cs d T))) (va_Qi (fun r (u : Tw) => r = res.1 ∧ u = res.2 ∧ narrow .boolean (.int r) = .int r) (fun u t => va_P (dC, dI) vwCl ((fun u : Tw => (wF (a 0) (b 0) ++ wT cs b u ++ wT cs d T)) u) t.heap ∧ va_D (va_A (wF (a 0) (b 0) ++ wT cs b N ++ wT cs d T) sz) ((fun u : Tw => (wF (a 0) (b 0) ++ wT cs b u ++ wT cs d T)) u)) (va_A (wF (a 0) (b 0) ++ wT cs b N ++ wT cs d T) sz)) 0 0 (va_A (wF (a 0) (b 0) ++ wT cs b N ++ wT cs d T) sz) := by
  refine Met.ofW (cc := cX1_canBear) (maxL := 6) (ret := (some .boolean)) (by decide) rfl ?_
  intro p e s m args below meth c s₁ B hml hv
  obtain ⟨rfl, hsz, hP, G, hD0⟩ := hv
  have hts := atoms_spec (ws := wsX1_canBear) B.pre
  have hown : s.vm.findClass RX1 = some m.cls := findClass_of_methodNamed B.named
  have hlocks := B.notSynchronized
  have hx := B.exec
  have hb := B.bytes
  have hr := B.returns
  have C : CallFix p m c cX1_canBear 6 s _ wsX1_canBear RX1 := ⟨hx, hb, hml, hown, hts⟩
  obtain ⟨hK, hN⟩ := id G
  subst hsz
  have hD := hD0.self (sz := s.heap.size)
  generalize hAe : va_A (wF (a 0) (b 0) ++ wT cs b N ++ wT cs d T) s.heap.size = A at hD ⊢
  have hA : ∀ q : Nat, s.heap.size ≤ q → A q := fun q h => by rw [← hAe]; exact Or.inr h
  have hS : va_S A s.heap s.heap [] := va_S.rf
  have hR : RTz p l e ({ frames := 4, cells := 0, slots := 0, locals := 88 }) s m ([.ref (a 0), .ref (d 0), .int (x2), .int (x3), .int (x4)] : List Value).toArray below meth c cX1_canBear (MQ below (va_Qi (fun r (u : Tw) => r = res.1 ∧ u = res.2 ∧ narrow .boolean (.int r) = .int r) (fun u t => va_P (dC, dI) vwCl ((fun u : Tw => (wF (a 0) (b 0) ++ wT cs b u ++ wT cs d T)) u) t.heap ∧ va_D A ((fun u : Tw => (wF (a 0) (b 0) ++ wT cs b u ++ wT cs d T)) u)) A) ([.ref (a 0), .ref (d 0), .int (x2), .int (x3), .int (x4)] : List Value).toArray s 0 0 A) (dC, dI) A (fun u : Tw => (wF (a 0) (b 0) ++ wT cs b u ++ wT cs d T)) res := fun H locs pc ls r u dd hn h hP hD hS => W.zret hx hb hr hn (fun t ht hW => ⟨⟨r, u, rfl, by cases h; exact ⟨rfl, rfl, hn⟩, by rw [ht]; exact hP, hD⟩, hS.F ht⟩) hS.2.2 dd
  have hl := lv_entry ([.ref (a 0), .ref (d 0), .int (x2), .int (x3), .int (x4)]) (n := 6) (Nat.le_of_ble_eq_true rfl)
  rw [lg_entry_eq]
  generalize (lg_sl ([.ref (a 0), .ref (d 0), .int (x2), .int (x3), .int (x4)]) ++ List.replicate (6 - (lg_sl ([.ref (a 0), .ref (d 0), .int (x2), .int (x3), .int (x4)])).length) Slot.unset).toArray = ls at hl ⊢
  have hl : lv_has ls 6 [(0, .ref (a 0)), (1, .ref (d 0)), (2, .int (x2)), (3, .int (x3)), (4, .int (x4))] := hl
  unfold f_X1_canBear at hf
  refine lv_aload_n hx hb dX1_canBear_0 rfl (lv_at hl 0 rfl) ?_
  refine va_get (D := (dC, dI)) (ci := 1) (v := .ref (b 0)) (C := RX1) (T := TX1) (N := 1) hx hb hts in_X1_canBear_X1 hown hK hP 0 rfl rfl 0 (by decide) (hts (.fieldLink RX1 12 "BackLoans$Foresight" "trial" "LBackLoans$Town;") (by decide +kernel)) (fun _ h9 => h9) rfl dX1_canBear_1 ?_
  refine lv_aload_n hx hb dX1_canBear_4 rfl (lv_at hl 1 rfl) ?_
  obtain ⟨r5, hr5, hf⟩ := bn_e hf
  have hPc := hP.sub (ws' := (wT cs b N ++ wT cs d T)) [1, 2, 3, 4, 5, 6, 7, 8, 9, 10, 11, 12, 13, 14, 15, 16, 17, 18, 19, 20, 21, 22] rfl
  have hDc := hD.sub (ws' := (wT cs b N ++ wT cs d T)) [1, 2, 3, 4, 5, 6, 7, 8, 9, 10, 11, 12, 13, 14, 15, 16, 17, 18, 19, 20, 21, 22] (by decide) rfl
  have hFc := va_free (wc := (wT cs b N ++ wT cs d T)) hD hS hA [1, 2, 3, 4, 5, 6, 7, 8, 9, 10, 11, 12, 13, 14, 15, 16, 17, 18, 19, 20, 21, 22] rfl
  refine va_callv (va_runV (As := [.ref (d 0)]) (rest := []) C (c_X5_copyFrom l dC dI cs b d s.heap.size N T r5 hr5) (cwV 1 hts gX1_canBear_X5_copyFrom rfl rfl rfl (by decide +kernel) ⟨Nat.le_of_ble_eq_true rfl, Nat.le_of_ble_eq_true rfl⟩) ⟨(fun a U g mk q => ⟨q.1, q.2.1, q.2.2.1, GE.calling q.2.2.2.1, q.2.2.2.2⟩), va_recv hK hPc (ci := 5) (q0 := 0) rfl rfl, (fun U hU hW => ⟨rfl, by rw [hU], by rw [hU]; exact hPc, GE.warm hW G, hDc.weaken (fun _ _ _ _ => trivial)⟩)⟩ rfl rfl hl.1 rfl (lv_room (Nat.le_of_ble_eq_true rfl)) dX1_canBear_5 ⟨Nat.le_of_ble_eq_true rfl, Nat.le_of_ble_eq_true rfl⟩) hS (fun q _ h => hFc q h) hFc (fun u t H1 locs ht hvm hw hB hz1 hk1 hS => ?_)
  obtain rfl := hw.symm
  obtain ⟨hP1, hD1⟩ := hB
  rw [ht] at hP1
  obtain ⟨hP, hD⟩ := va_join (wr := [0].filterMap (fun i => ((wF (a 0) (b 0) ++ wT cs b N ++ wT cs d T))[i]?)) (w1 := (wT cs b r5 ++ wT cs d T)) hP hD [1, 2, 3, 4, 5, 6, 7, 8, 9, 10, 11, 12, 13, 14, 15, 16, 17, 18, 19, 20, 21, 22] [0] rfl rfl (by decide) (by decide) hk1 hFc hP1 hD1
  generalize H1 = H at hP hS ⊢
  have hP := hP.sub (ws' := (wF (a 0) (b 0) ++ wT cs b r5 ++ wT cs d T)) [0, 1, 2, 3, 4, 5, 6, 7, 8, 9, 10, 11, 12, 13, 14, 15, 16, 17, 18, 19, 20, 21, 22] rfl
  have hD := hD.sub (ws' := (wF (a 0) (b 0) ++ wT cs b r5 ++ wT cs d T)) [0, 1, 2, 3, 4, 5, 6, 7, 8, 9, 10, 11, 12, 13, 14, 15, 16, 17, 18, 19, 20, 21, 22] (by decide) rfl
  refine lv_iconst (v := 0) hx hb dX1_canBear_8 (by decide) ?_
  refine lv_topi (fun x5_9 ex5_9 => ?_)
  replace hf := lett_s ex5_9 hf
  refine lv_istore (lv' := [(5, .int (x5_9)), (0, .ref (a 0)), (1, .ref (d 0)), (2, .int (x2)), (3, .int (x3)), (4, .int (x4))]) hx hb dX1_canBear_9 hl (by decide) rfl (fun ls hl => ?_)
  exact w_X1_canBear_11 C G hA hR x2 x3 x4 T (fun Nz H locs ls hl hP hD hS hf => b_X1_canBear_58 C G hA hR x4 Nz T _ _ _ hl hP hD hS hf) FU x5_9 r5 _ _ _ (lv_sub hl [1, 2, 3, 4, 5, 0] rfl) hP hD hS hf

theorem in_X1_bestOffers_X5 : ∀ w ∈ wsX50, w ∈ wsX1_bestOffers := by decide +kernel
def f_X1_bestOffers_86 (x2 : Int32) (x3 : Int32) (x4 : Int32) (x5 : Int32) (x6 : Int32) (x7 : Int32) (N : Tw) (T : Tw) (K30 : Int32 → Int32 → Int32 → Tw → Option (Int32 × Tw)) : Option (Int32 × Tw) :=
  lett (x7 + 1) fun x7_86 =>
  K30 x5 x6 x7_86 N
set_option maxHeartbeats 4000000 in
set_option maxRecDepth 100000 in
theorem b_X1_bestOffers_86 {p : Program} {l : Launch} {e : Env} {s : State} {m : MethodId} {args : Array Value} {below : List Frame} {meth : Method} {c : Code} {Q : State → Prop} {dC : Nat → ClassId} {dI : Nat → Nat → Nat} {cs : Nat → ClassId} {A : Nat → Prop} {a : Nat → Nat} {b : Nat → Nat} {d : Nat → Nat} {res : Int32 × Tw} (C : CallFix p m c cX1_bestOffers 9 s args wsX1_bestOffers RX1) (G : GE dC dI cs s) (hA : ∀ q : Nat, s.heap.size ≤ q → A q) {T : Tw} (hR : RTi p l e ({ frames := 5, cells := 0, slots := 0, locals := 113 }) s m args below meth c cX1_bestOffers Q (dC, dI) A (fun u : Tw => (wF (a 0) (b 0) ++ wT cs b u ++ wT cs d T)) res) (x2 : Int32) (x3 : Int32) (x4 : Int32) (x5 : Int32) (x6 : Int32) (x7 : Int32) (N : Tw) (_ : Tw) {K30 : Int32 → Int32 → Int32 → Tw → Option (Int32 × Tw)} (hK30 : ∀ (x5 : Int32) (x6 : Int32) (x7 : Int32) (N : Tw) (H : Heap) (locs : List Loc) (ls : Array Slot), lv_has ls 9 [(0, .ref (a 0)), (1, .ref (d 0)), (2, .int (x2)), (3, .int (x3)), (4, .int (x4)), (5, .int (x5)), (6, .int (x6)), (7, .int (x7))] → va_P (dC, dI) vwCl (wF (a 0) (b 0) ++ wT cs b N ++ wT cs d T) H → va_D A (wF (a 0) (b 0) ++ wT cs b N ++ wT cs d T) → va_S A s.heap H locs → K30 x5 x6 x7 N = some res → W p l e ({ frames := 5, cells := 0, slots := 0, locals := 113 }) s m args below meth c H locs 0 0 Q (F0 m 30 ls [])) (H : Heap) (locs : List Loc) (ls : Array Slot) (hl : lv_has ls 9 [(0, .ref (a 0)), (1, .ref (d 0)), (2, .int (x2)), (3, .int (x3)), (4, .int (x4)), (5, .int (x5)), (6, .int (x6)), (7, .int (x7))]) (hP : va_P (dC, dI) vwCl (wF (a 0) (b 0) ++ wT cs b N ++ wT cs d T) H) (hD : va_D A (wF (a 0) (b 0) ++ wT cs b N ++ wT cs d T)) (hS : va_S A s.heap H locs) (hf : f_X1_bestOffers_86 x2 x3 x4 x5 x6 x7 N T K30 = some res) : W p l e ({ frames := 5, cells := 0, slots := 0, locals := 113 }) s m args below meth c H locs 0 0 Q (F0 m 86 ls []) := by
  obtain ⟨hx, hb, hml, hown, hts⟩ := id C
  obtain ⟨hK, hN⟩ := id G
  unfold f_X1_bestOffers_86 at hf
  obtain ⟨x7_86, ex7_86⟩ : ∃ y : Int32, y = (x7 + 1) := ⟨_, rfl⟩
  replace hf := lett_s ex7_86 hf
  refine lv_iinc (v := x7_86) (lv' := [(7, .int (x7_86)), (0, .ref (a 0)), (1, .ref (d 0)), (2, .int (x2)), (3, .int (x3)), (4, .int (x4)), (5, .int (x5)), (6, .int (x6))]) hx hb dX1_bestOffers_86 hl (k := 7) rfl (by rw [ex7_86]; rfl) (by decide) rfl (fun ls hl => ?_)
  refine lv_goto (tgt := 30) hx hb dX1_bestOffers_89 (by decide) ?_
  exact hK30 x5 x6 x7_86 N _ _ _ (lv_sub hl [1, 2, 3, 4, 5, 6, 7, 0] rfl) hP hD hS hf
def f_X1_bestOffers_30 (x2 : Int32) (x3 : Int32) (x4 : Int32) (x5 : Int32) (x6 : Int32) (x7 : Int32) (N : Tw) (T : Tw) (K30 : Int32 → Int32 → Int32 → Tw → Option (Int32 × Tw)) : Option (Int32 × Tw) :=
  if ((1 : Int32) <<< ((T.1 6) &&& 31)) ≤ x7 then (
    some (x5, N)
  ) else (
    bn (f_X5_gainOfOffers x7 T) fun r44 =>
    if r44 ≤ x6 then (
      f_X1_bestOffers_86 x2 x3 x4 x5 x6 x7 N T K30
    ) else (
      bn (f_J6_bitCount_0f7a4 x7) fun r58 =>
      if x3 < r58 then (
        f_X1_bestOffers_86 x2 x3 x4 x5 x6 x7 N T K30
      ) else (
        bn (f_X1_canBear x2 x7 x4 N T) fun r72 =>
        if r72.1 = 0 then (
          f_X1_bestOffers_86 x2 x3 x4 x5 x6 x7 r72.2 T K30
        ) else (
          f_X1_bestOffers_86 x2 x3 x4 x7 r44 x7 r72.2 T K30
        )
      )
    )
  )
set_option maxHeartbeats 4000000 in
set_option maxRecDepth 100000 in
theorem b_X1_bestOffers_30 {p : Program} {l : Launch} {e : Env} {s : State} {m : MethodId} {args : Array Value} {below : List Frame} {meth : Method} {c : Code} {Q : State → Prop} {dC : Nat → ClassId} {dI : Nat → Nat → Nat} {cs : Nat → ClassId} {A : Nat → Prop} {a : Nat → Nat} {b : Nat → Nat} {d : Nat → Nat} {res : Int32 × Tw} (C : CallFix p m c cX1_bestOffers 9 s args wsX1_bestOffers RX1) (G : GE dC dI cs s) (hA : ∀ q : Nat, s.heap.size ≤ q → A q) {T : Tw} (hR : RTi p l e ({ frames := 5, cells := 0, slots := 0, locals := 113 }) s m args below meth c cX1_bestOffers Q (dC, dI) A (fun u : Tw => (wF (a 0) (b 0) ++ wT cs b u ++ wT cs d T)) res) (x2 : Int32) (x3 : Int32) (x4 : Int32) (x5 : Int32) (x6 : Int32) (x7 : Int32) (N : Tw) (_ : Tw) {K30 : Int32 → Int32 → Int32 → Tw → Option (Int32 × Tw)} (hK30 : ∀ (x5 : Int32) (x6 : Int32) (x7 : Int32) (N : Tw) (H : Heap) (locs : List Loc) (ls : Array Slot), lv_has ls 9 [(0, .ref (a 0)), (1, .ref (d 0)), (2, .int (x2)), (3, .int (x3)), (4, .int (x4)), (5, .int (x5)), (6, .int (x6)), (7, .int (x7))] → va_P (dC, dI) vwCl (wF (a 0) (b 0) ++ wT cs b N ++ wT cs d T) H → va_D A (wF (a 0) (b 0) ++ wT cs b N ++ wT cs d T) → va_S A s.heap H locs → K30 x5 x6 x7 N = some res → W p l e ({ frames := 5, cells := 0, slots := 0, locals := 113 }) s m args below meth c H locs 0 0 Q (F0 m 30 ls [])) (H : Heap) (locs : List Loc) (ls : Array Slot) (hl : lv_has ls 9 [(0, .ref (a 0)), (1, .ref (d 0)), (2, .int (x2)), (3, .int (x3)), (4, .int (x4)), (5, .int (x5)), (6, .int (x6)), (7, .int (x7))]) (hP : va_P (dC, dI) vwCl (wF (a 0) (b 0) ++ wT cs b N ++ wT cs d T) H) (hD : va_D A (wF (a 0) (b 0) ++ wT cs b N ++ wT cs d T)) (hS : va_S A s.heap H locs) (hf : f_X1_bestOffers_30 x2 x3 x4 x5 x6 x7 N T K30 = some res) : W p l e ({ frames := 5, cells := 0, slots := 0, locals := 113 }) s m args below meth c H locs 0 0 Q (F0 m 30 ls []) := by
  obtain ⟨hx, hb, hml, hown, hts⟩ := id C
  obtain ⟨hK, hN⟩ := id G
  unfold f_X1_bestOffers_30 at hf
  refine lv_iload hx hb dX1_bestOffers_30 (lv_at hl 7 rfl) ?_
  refine lv_iconst (v := 1) hx hb dX1_bestOffers_32 (by decide) ?_
  refine lv_aload_n hx hb dX1_bestOffers_33 rfl (lv_at hl 1 rfl) ?_
  refine va_get (D := (dC, dI)) (ci := 5) (v := .int ((T.1 6))) (C := RX5) (T := TX5) (N := 17) hx hb hts in_X1_bestOffers_X5 hown hK hP 12 rfl rfl 6 (by decide) (hts (.fieldLink RX1 48 "BackLoans$Town" "offers" "I") (by decide +kernel)) (fun _ h9 => h9) rfl dX1_bestOffers_34 ?_
  refine lv_ishl hx hb dX1_bestOffers_37 ?_
  refine lv_icmp_ge (tgt := 92) hx hb dX1_bestOffers_38 (by decide) (fun c1 => ?_) (fun c1 => ?_)
  · replace hf := it_t c1 hf
    refine lv_iload hx hb dX1_bestOffers_92 (lv_at hl 5 rfl) ?_
    exact hR _ _ _ _ _ _ dX1_bestOffers_94 hf hP hD hS
  · replace hf := it_f c1 hf
    refine lv_aload_n hx hb dX1_bestOffers_41 rfl (lv_at hl 1 rfl) ?_
    refine lv_iload hx hb dX1_bestOffers_42 (lv_at hl 7 rfl) ?_
    obtain ⟨r44, hr44, hf⟩ := bn_e hf
    have hPc := hP.sub (ws' := (wT cs d T)) [12, 13, 14, 15, 16, 17, 18, 19, 20, 21, 22] rfl
    refine vp_callSi (W.runV (As := [.int (x7)]) (rest := []) C (c_X5_gainOfOffers l dC dI cs d T x7 r44 hr44) (cwV 1 hts gX1_bestOffers_X5_gainOfOffers rfl rfl rfl (by decide +kernel) ⟨Nat.le_of_ble_eq_true rfl, Nat.le_of_ble_eq_true rfl⟩) ⟨(fun a U g mk q => ⟨q.1, q.2.1, GE.calling q.2.2⟩), va_recv hK hPc (ci := 5) (q0 := 0) rfl rfl, (fun U hU hW => ⟨rfl, by rw [hU]; exact hPc, GE.warm hW G⟩)⟩ rfl rfl hl.1 rfl (lv_room (Nat.le_of_ble_eq_true rfl)) dX1_bestOffers_44 ⟨Nat.le_of_ble_eq_true rfl, Nat.le_of_ble_eq_true rfl⟩) (fun qr44 hqr44 => ?_)
    obtain rfl := hqr44.symm
    refine lv_istore (lv' := [(8, .int (r44)), (0, .ref (a 0)), (1, .ref (d 0)), (2, .int (x2)), (3, .int (x3)), (4, .int (x4)), (5, .int (x5)), (6, .int (x6)), (7, .int (x7))]) hx hb dX1_bestOffers_47 hl (by decide) rfl (fun ls hl => ?_)
    refine lv_iload hx hb dX1_bestOffers_49 (lv_at hl 0 rfl) ?_
    refine lv_iload hx hb dX1_bestOffers_51 (lv_at hl 7 rfl) ?_
    refine lv_icmp_le (tgt := 86) hx hb dX1_bestOffers_53 (by decide) (fun c2 => ?_) (fun c2 => ?_)
    · replace hf := it_t c2 hf
      exact b_X1_bestOffers_86 C G hA hR x2 x3 x4 x5 x6 x7 N T hK30 _ _ _ (lv_sub hl [1, 2, 3, 4, 5, 6, 7, 8] rfl) hP hD hS hf
    · replace hf := it_f c2 hf
      refine lv_iload hx hb dX1_bestOffers_56 (lv_at hl 8 rfl) ?_
      obtain ⟨r58, hr58, hf⟩ := bn_e hf
      have hPc := hP.sub (ws' := ([] : va_W)) [] rfl
      refine vp_callSi (W.runS (As := [.int (x7)]) (rest := []) C (c_J6_bitCount_0f7a4 l dC dI cs x7 r58 hr58) (va_cwS 1 hts gX1_bestOffers_J6_bitCount_0f7a4 rfl rfl rfl (by decide +kernel) ⟨Nat.le_of_ble_eq_true rfl, Nat.le_of_ble_eq_true rfl⟩) ⟨(fun a U g mk q => ⟨q.1, q.2.1, GE.calling q.2.2⟩), (fun U hU hW => ⟨rfl, by rw [hU]; exact hPc, GE.warm hW G⟩)⟩ rfl rfl hl.1 rfl (lv_room (Nat.le_of_ble_eq_true rfl)) dX1_bestOffers_58 ⟨Nat.le_of_ble_eq_true rfl, Nat.le_of_ble_eq_true rfl⟩) (fun qr58 hqr58 => ?_)
      obtain rfl := hqr58.symm
      refine lv_iload_n hx hb dX1_bestOffers_61 rfl (lv_at hl 4 rfl) ?_
      refine lv_icmp_gt (tgt := 86) hx hb dX1_bestOffers_62 (by decide) (fun c3 => ?_) (fun c3 => ?_)
      · replace hf := it_t c3 hf
        exact b_X1_bestOffers_86 C G hA hR x2 x3 x4 x5 x6 x7 N T hK30 _ _ _ (lv_sub hl [1, 2, 3, 4, 5, 6, 7, 8] rfl) hP hD hS hf
      · replace hf := it_f c3 hf
        refine lv_aload_n hx hb dX1_bestOffers_65 rfl (lv_at hl 1 rfl) ?_
        refine lv_aload_n hx hb dX1_bestOffers_66 rfl (lv_at hl 2 rfl) ?_
        refine lv_iload_n hx hb dX1_bestOffers_67 rfl (lv_at hl 3 rfl) ?_
        refine lv_iload hx hb dX1_bestOffers_68 (lv_at hl 8 rfl) ?_
        refine lv_iload hx hb dX1_bestOffers_70 (lv_at hl 5 rfl) ?_
        obtain ⟨r72, hr72, hf⟩ := bn_e hf
        have hPc := hP.sub (ws' := (wF (a 0) (b 0) ++ wT cs b N ++ wT cs d T)) [0, 1, 2, 3, 4, 5, 6, 7, 8, 9, 10, 11, 12, 13, 14, 15, 16, 17, 18, 19, 20, 21, 22] rfl
        have hDc := hD.sub (ws' := (wF (a 0) (b 0) ++ wT cs b N ++ wT cs d T)) [0, 1, 2, 3, 4, 5, 6, 7, 8, 9, 10, 11, 12, 13, 14, 15, 16, 17, 18, 19, 20, 21, 22] (by decide) rfl
        have hFc := va_free (wc := (wF (a 0) (b 0) ++ wT cs b N ++ wT cs d T)) hD hS hA [0, 1, 2, 3, 4, 5, 6, 7, 8, 9, 10, 11, 12, 13, 14, 15, 16, 17, 18, 19, 20, 21, 22] rfl
        refine va_calli (va_runV (As := [.ref (d 0), .int (x2), .int (x7), .int (x4)]) (rest := []) C (c_X1_canBear l dC dI cs a b d H.size N T x2 x7 x4 r72 hr72) (cwV 4 hts gX1_bestOffers_X1_canBear rfl rfl rfl (by decide +kernel) ⟨Nat.le_of_ble_eq_true rfl, Nat.le_of_ble_eq_true rfl⟩) ⟨(fun a U g mk q => ⟨q.1, q.2.1, q.2.2.1, GE.calling q.2.2.2.1, q.2.2.2.2⟩), va_recv hK hPc (ci := 1) (q0 := 0) rfl rfl, (fun U hU hW => ⟨rfl, by rw [hU], by rw [hU]; exact hPc, GE.warm hW G, hDc.weaken (fun _ _ _ _ => trivial)⟩)⟩ rfl rfl hl.1 rfl (lv_room (Nat.le_of_ble_eq_true rfl)) dX1_bestOffers_72 ⟨Nat.le_of_ble_eq_true rfl, Nat.le_of_ble_eq_true rfl⟩) hS (fun q _ h => hFc q h) hFc (fun q u t H1 locs ht hvm hw hB hz1 hk1 hS => ?_)
        obtain ⟨rfl, rfl, hnr72⟩ := hw
        obtain ⟨hP1, hD1⟩ := hB
        rw [ht] at hP1
        obtain ⟨hP, hD⟩ := va_join (wr := []) (w1 := (wF (a 0) (b 0) ++ wT cs b r72.2 ++ wT cs d T)) hP hD [0, 1, 2, 3, 4, 5, 6, 7, 8, 9, 10, 11, 12, 13, 14, 15, 16, 17, 18, 19, 20, 21, 22] [] rfl rfl (by decide) (by decide) hk1 hFc hP1 hD1
        generalize H1 = H at hP hS ⊢
        have hP := hP.sub (ws' := (wF (a 0) (b 0) ++ wT cs b r72.2 ++ wT cs d T)) [0, 1, 2, 3, 4, 5, 6, 7, 8, 9, 10, 11, 12, 13, 14, 15, 16, 17, 18, 19, 20, 21, 22] rfl
        have hD := hD.sub (ws' := (wF (a 0) (b 0) ++ wT cs b r72.2 ++ wT cs d T)) [0, 1, 2, 3, 4, 5, 6, 7, 8, 9, 10, 11, 12, 13, 14, 15, 16, 17, 18, 19, 20, 21, 22] (by decide) rfl
        refine lv_if_eq (tgt := 86) hx hb dX1_bestOffers_75 (by decide) (fun c4 => ?_) (fun c4 => ?_)
        · replace hf := it_t c4 hf
          exact b_X1_bestOffers_86 C G hA hR x2 x3 x4 x5 x6 x7 r72.2 T hK30 _ _ _ (lv_sub hl [1, 2, 3, 4, 5, 6, 7, 8] rfl) hP hD hS hf
        · replace hf := it_f c4 hf
          refine lv_iload hx hb dX1_bestOffers_78 (lv_at hl 0 rfl) ?_
          refine lv_istore (lv' := [(6, .int (r44)), (8, .int (r44)), (0, .ref (a 0)), (1, .ref (d 0)), (2, .int (x2)), (3, .int (x3)), (4, .int (x4)), (5, .int (x5)), (7, .int (x7))]) hx hb dX1_bestOffers_80 hl (by decide) rfl (fun ls hl => ?_)
          refine lv_iload hx hb dX1_bestOffers_82 (lv_at hl 8 rfl) ?_
          refine lv_istore (lv' := [(5, .int (x7)), (6, .int (r44)), (8, .int (r44)), (0, .ref (a 0)), (1, .ref (d 0)), (2, .int (x2)), (3, .int (x3)), (4, .int (x4)), (7, .int (x7))]) hx hb dX1_bestOffers_84 hl (by decide) rfl (fun ls hl => ?_)
          exact b_X1_bestOffers_86 C G hA hR x2 x3 x4 x7 r44 x7 r72.2 T hK30 _ _ _ (lv_sub hl [3, 4, 5, 6, 7, 0, 1, 8] rfl) hP hD hS hf
def l_X1_bestOffers_30 (x2 : Int32) (x3 : Int32) (x4 : Int32) (T : Tw)  (n : Nat) (x5 : Int32) (x6 : Int32) (x7 : Int32) (N : Tw) : Option (Int32 × Tw) := itr (fun (k : Int32 × Int32 × Int32 × Tw → Option (Int32 × Tw)) (z : Int32 × Int32 × Int32 × Tw) => f_X1_bestOffers_30 x2 x3 x4 z.1 z.2.1 z.2.2.1 z.2.2.2 T (fun x5 x6 x7 N => k (x5, x6, x7, N))) n (x5, x6, x7, N)
set_option maxHeartbeats 4000000 in
set_option maxRecDepth 100000 in
theorem w_X1_bestOffers_30 {p : Program} {l : Launch} {e : Env} {s : State} {m : MethodId} {args : Array Value} {below : List Frame} {meth : Method} {c : Code} {Q : State → Prop} {dC : Nat → ClassId} {dI : Nat → Nat → Nat} {cs : Nat → ClassId} {A : Nat → Prop} {a : Nat → Nat} {b : Nat → Nat} {d : Nat → Nat} {res : Int32 × Tw} (C : CallFix p m c cX1_bestOffers 9 s args wsX1_bestOffers RX1) (G : GE dC dI cs s) (hA : ∀ q : Nat, s.heap.size ≤ q → A q) {T : Tw} (hR : RTi p l e ({ frames := 5, cells := 0, slots := 0, locals := 113 }) s m args below meth c cX1_bestOffers Q (dC, dI) A (fun u : Tw => (wF (a 0) (b 0) ++ wT cs b u ++ wT cs d T)) res) (x2 : Int32) (x3 : Int32) (x4 : Int32) (_ : Tw)   : ∀ (n : Nat) (x5 : Int32) (x6 : Int32) (x7 : Int32) (N : Tw) (H : Heap) (locs : List Loc) (ls : Array Slot), lv_has ls 9 [(0, .ref (a 0)), (1, .ref (d 0)), (2, .int (x2)), (3, .int (x3)), (4, .int (x4)), (5, .int (x5)), (6, .int (x6)), (7, .int (x7))] → va_P (dC, dI) vwCl (wF (a 0) (b 0) ++ wT cs b N ++ wT cs d T) H → va_D A (wF (a 0) (b 0) ++ wT cs b N ++ wT cs d T) → va_S A s.heap H locs → l_X1_bestOffers_30 x2 x3 x4 T n x5 x6 x7 N = some res → W p l e ({ frames := 5, cells := 0, slots := 0, locals := 113 }) s m args below meth c H locs 0 0 Q (F0 m 30 ls []) := by
  intro n
  induction n with
  | zero => intro x5 x6 x7 N H locs ls hl hP hD hS hf; exact absurd hf (by simp [l_X1_bestOffers_30, itr])
  | succ n ih => intro x5 x6 x7 N H locs ls hl hP hD hS hf; exact b_X1_bestOffers_30 C G hA hR x2 x3 x4 x5 x6 x7 N T (K30 := fun x5 x6 x7 N => l_X1_bestOffers_30 x2 x3 x4 T n x5 x6 x7 N) (fun x5 x6 x7 N H locs ls hl hP hD hS hf => ih x5 x6 x7 N H locs ls hl hP hD hS hf) H locs ls hl hP hD hS hf
def f_X1_bestOffers (x2 : Int32) (N : Tw) (T : Tw) : Option (Int32 × Tw) :=
  lett ((8 : Int32) - (T.1 5)) fun x3_7 =>
  bn (f_X1_lookAhead (12 : Int32) N T) fun r12 =>
  bn (f_X5_howManyAre (2 : Int32) r12) fun r16 =>
  lett (0 : Int32) fun x5_22 =>
  lett (0 : Int32) fun x6_25 =>
  lett (1 : Int32) fun x7_28 =>
  l_X1_bestOffers_30 x2 x3_7 r16 T FU x5_22 x6_25 x7_28 r12
set_option maxHeartbeats 4000000 in
set_option maxRecDepth 100000 in
theorem c_X1_bestOffers (l : Launch) (dC : Nat → ClassId) (dI : Nat → Nat → Nat) (cs : Nat → ClassId) (a : Nat → Nat) (b : Nat → Nat) (d : Nat → Nat) (sz : Nat) (N : Tw) (T : Tw) (x2 : Int32) (res : Int32 × Tw) (hf : f_X1_bestOffers x2 N T = some res) : Met l yX1_bestOffers wsX1_bestOffers ({ frames := 5, cells := 0, slots := 0, locals := 113 }) (va_Pc [.ref (a 0), .ref (d 0), .int (x2)] (fun U => U.heap.size = sz ∧ va_P (dC, dI) vwCl (wF (a 0) (b 0) ++ wT cs b N ++ wT cs d T) U.heap ∧ GE dC dI cs U ∧ va_D (fun _ => True) (wF (a 0) (b 0) ++ wT cs b N ++ wT cs d T))) (va_Qi (fun r (u : Tw) => r = res.1 ∧ u = res.2) (fun u t => va_P (dC, dI) vwCl ((fun u : Tw => (wF (a 0) (b 0) ++ wT cs b u ++ wT cs d T)) u) t.heap ∧ va_D (va_A (wF (a 0) (b 0) ++ wT cs b N ++ wT cs d T) sz) ((fun u : Tw => (wF (a 0) (b 0) ++ wT cs b u ++ wT cs d T)) u)) (va_A (wF (a 0) (b 0) ++ wT cs b N ++ wT cs d T) sz)) 0 0 (va_A (wF (a 0) (b 0) ++ wT cs b N ++ wT cs d T) sz) := by
  refine Met.ofW (cc := cX1_bestOffers) (maxL := 9) (ret := (some .int)) (by decide) rfl ?_
  intro p e s m args below meth c s₁ B hml hv
  obtain ⟨rfl, hsz, hP, G, hD0⟩ := hv
  have hts := atoms_spec (ws := wsX1_bestOffers) B.pre
  have hown : s.vm.findClass RX1 = some m.cls := findClass_of_methodNamed B.named
  have hlocks := B.notSynchronized
  have hx := B.exec
  have hb := B.bytes
  have hr := B.returns
  have C : CallFix p m c cX1_bestOffers 9 s _ wsX1_bestOffers RX1 := ⟨hx, hb, hml, hown, hts⟩
  obtain ⟨hK, hN⟩ := id G
  subst hsz
  have hD := hD0.self (sz := s.heap.size)
  generalize hAe : va_A (wF (a 0) (b 0) ++ wT cs b N ++ wT cs d T) s.heap.size = A at hD ⊢
  have hA : ∀ q : Nat, s.heap.size ≤ q → A q := fun q h => by rw [← hAe]; exact Or.inr h
  have hS : va_S A s.heap s.heap [] := va_S.rf
  have hR : RTi p l e ({ frames := 5, cells := 0, slots := 0, locals := 113 }) s m ([.ref (a 0), .ref (d 0), .int (x2)] : List Value).toArray below meth c cX1_bestOffers (MQ below (va_Qi (fun r (u : Tw) => r = res.1 ∧ u = res.2) (fun u t => va_P (dC, dI) vwCl ((fun u : Tw => (wF (a 0) (b 0) ++ wT cs b u ++ wT cs d T)) u) t.heap ∧ va_D A ((fun u : Tw => (wF (a 0) (b 0) ++ wT cs b u ++ wT cs d T)) u)) A) ([.ref (a 0), .ref (d 0), .int (x2)] : List Value).toArray s 0 0 A) (dC, dI) A (fun u : Tw => (wF (a 0) (b 0) ++ wT cs b u ++ wT cs d T)) res := fun H locs pc ls r u dd h hP hD hS => W.iret hx hb hr (fun t ht hW => ⟨⟨r, u, rfl, by cases h; exact ⟨rfl, rfl⟩, by rw [ht]; exact hP, hD⟩, hS.F ht⟩) hS.2.2 dd
  have hl := lv_entry ([.ref (a 0), .ref (d 0), .int (x2)]) (n := 9) (Nat.le_of_ble_eq_true rfl)
  rw [lg_entry_eq]
  generalize (lg_sl ([.ref (a 0), .ref (d 0), .int (x2)]) ++ List.replicate (9 - (lg_sl ([.ref (a 0), .ref (d 0), .int (x2)])).length) Slot.unset).toArray = ls at hl ⊢
  have hl : lv_has ls 9 [(0, .ref (a 0)), (1, .ref (d 0)), (2, .int (x2))] := hl
  unfold f_X1_bestOffers at hf
  refine lv_bipush (v := 8) hx hb dX1_bestOffers_0 (by decide) ?_
  refine lv_aload_n hx hb dX1_bestOffers_2 rfl (lv_at hl 1 rfl) ?_
  refine va_get (D := (dC, dI)) (ci := 5) (v := .int ((T.1 5))) (C := RX5) (T := TX5) (N := 17) hx hb hts in_X1_bestOffers_X5 hown hK hP 12 rfl rfl 5 (by decide) (hts (.fieldLink RX1 37 "BackLoans$Town" "loans" "I") (by decide +kernel)) (fun _ h9 => h9) rfl dX1_bestOffers_3 ?_
  refine lv_isub hx hb dX1_bestOffers_6 ?_
  refine lv_topi (fun x3_7 ex3_7 => ?_)
  replace hf := lett_s ex3_7 hf
  refine lv_istore_n (lv' := [(3, .int (x3_7)), (0, .ref (a 0)), (1, .ref (d 0)), (2, .int (x2))]) hx hb dX1_bestOffers_7 rfl hl (by decide) rfl (fun ls hl => ?_)
  refine lv_aload_n hx hb dX1_bestOffers_8 rfl (lv_at hl 1 rfl) ?_
  refine lv_aload_n hx hb dX1_bestOffers_9 rfl (lv_at hl 2 rfl) ?_
  refine lv_bipush (v := 12) hx hb dX1_bestOffers_10 (by decide) ?_
  obtain ⟨r12, hr12, hf⟩ := bn_e hf
  have hPc := hP.sub (ws' := (wF (a 0) (b 0) ++ wT cs b N ++ wT cs d T)) [0, 1, 2, 3, 4, 5, 6, 7, 8, 9, 10, 11, 12, 13, 14, 15, 16, 17, 18, 19, 20, 21, 22] rfl
  have hDc := hD.sub (ws' := (wF (a 0) (b 0) ++ wT cs b N ++ wT cs d T)) [0, 1, 2, 3, 4, 5, 6, 7, 8, 9, 10, 11, 12, 13, 14, 15, 16, 17, 18, 19, 20, 21, 22] (by decide) rfl
  have hFc := va_free (wc := (wF (a 0) (b 0) ++ wT cs b N ++ wT cs d T)) hD hS hA [0, 1, 2, 3, 4, 5, 6, 7, 8, 9, 10, 11, 12, 13, 14, 15, 16, 17, 18, 19, 20, 21, 22] rfl
  refine va_callr (va_runV (As := [.ref (d 0), .int ((12 : Int32))]) (rest := []) C (c_X1_lookAhead l dC dI cs a b d s.heap.size N T (12 : Int32) r12 hr12) (cwV 2 hts gX1_bestOffers_X1_lookAhead rfl rfl rfl (by decide +kernel) ⟨Nat.le_of_ble_eq_true rfl, Nat.le_of_ble_eq_true rfl⟩) ⟨(fun a U g mk q => ⟨q.1, q.2.1, q.2.2.1, GE.calling q.2.2.2.1, q.2.2.2.2⟩), va_recv hK hPc (ci := 1) (q0 := 0) rfl rfl, (fun U hU hW => ⟨rfl, by rw [hU], by rw [hU]; exact hPc, GE.warm hW G, hDc.weaken (fun _ _ _ _ => trivial)⟩)⟩ rfl rfl hl.1 rfl (lv_room (Nat.le_of_ble_eq_true rfl)) dX1_bestOffers_12 ⟨Nat.le_of_ble_eq_true rfl, Nat.le_of_ble_eq_true rfl⟩) hS (fun q _ h => hFc q h) hFc (fun u q t H1 locs ht hvm hw hB hz1 hk1 hS => ?_)
  obtain rfl := hw.symm
  obtain ⟨rfl, hP1, hD1⟩ := hB
  rw [ht] at hP1
  obtain ⟨hP, hD⟩ := va_join (wr := []) (w1 := (wF (a 0) (b 0) ++ wT cs b r12 ++ wT cs d T)) hP hD [0, 1, 2, 3, 4, 5, 6, 7, 8, 9, 10, 11, 12, 13, 14, 15, 16, 17, 18, 19, 20, 21, 22] [] rfl rfl (by decide) (by decide) hk1 hFc hP1 hD1
  generalize H1 = H at hP hS ⊢
  have hP := hP.sub (ws' := (wF (a 0) (b 0) ++ wT cs b r12 ++ wT cs d T)) [0, 1, 2, 3, 4, 5, 6, 7, 8, 9, 10, 11, 12, 13, 14, 15, 16, 17, 18, 19, 20, 21, 22] rfl
  have hD := hD.sub (ws' := (wF (a 0) (b 0) ++ wT cs b r12 ++ wT cs d T)) [0, 1, 2, 3, 4, 5, 6, 7, 8, 9, 10, 11, 12, 13, 14, 15, 16, 17, 18, 19, 20, 21, 22] (by decide) rfl
  refine lv_iconst (v := 2) hx hb dX1_bestOffers_15 (by decide) ?_
  obtain ⟨r16, hr16, hf⟩ := bn_e hf
  have hPc := hP.sub (ws' := (wT cs b r12)) [1, 2, 3, 4, 5, 6, 7, 8, 9, 10, 11] rfl
  refine vp_callSi (W.runV (As := [.int ((2 : Int32))]) (rest := []) C (c_X5_howManyAre l dC dI cs b r12 (2 : Int32) r16 hr16) (cwV 1 hts gX1_bestOffers_X5_howManyAre rfl rfl rfl (by decide +kernel) ⟨Nat.le_of_ble_eq_true rfl, Nat.le_of_ble_eq_true rfl⟩) ⟨(fun a U g mk q => ⟨q.1, q.2.1, GE.calling q.2.2⟩), va_recv hK hPc (ci := 5) (q0 := 0) rfl rfl, (fun U hU hW => ⟨rfl, by rw [hU]; exact hPc, GE.warm hW G⟩)⟩ rfl rfl hl.1 rfl (lv_room (Nat.le_of_ble_eq_true rfl)) dX1_bestOffers_16 ⟨Nat.le_of_ble_eq_true rfl, Nat.le_of_ble_eq_true rfl⟩) (fun qr16 hqr16 => ?_)
  obtain rfl := hqr16.symm
  refine lv_istore (lv' := [(4, .int (r16)), (3, .int (x3_7)), (0, .ref (a 0)), (1, .ref (d 0)), (2, .int (x2))]) hx hb dX1_bestOffers_19 hl (by decide) rfl (fun ls hl => ?_)
  refine lv_iconst (v := 0) hx hb dX1_bestOffers_21 (by decide) ?_
  refine lv_topi (fun x5_22 ex5_22 => ?_)
  replace hf := lett_s ex5_22 hf
  refine lv_istore (lv' := [(5, .int (x5_22)), (4, .int (r16)), (3, .int (x3_7)), (0, .ref (a 0)), (1, .ref (d 0)), (2, .int (x2))]) hx hb dX1_bestOffers_22 hl (by decide) rfl (fun ls hl => ?_)
  refine lv_iconst (v := 0) hx hb dX1_bestOffers_24 (by decide) ?_
  refine lv_topi (fun x6_25 ex6_25 => ?_)
  replace hf := lett_s ex6_25 hf
  refine lv_istore (lv' := [(6, .int (x6_25)), (5, .int (x5_22)), (4, .int (r16)), (3, .int (x3_7)), (0, .ref (a 0)), (1, .ref (d 0)), (2, .int (x2))]) hx hb dX1_bestOffers_25 hl (by decide) rfl (fun ls hl => ?_)
  refine lv_iconst (v := 1) hx hb dX1_bestOffers_27 (by decide) ?_
  refine lv_topi (fun x7_28 ex7_28 => ?_)
  replace hf := lett_s ex7_28 hf
  refine lv_istore (lv' := [(7, .int (x7_28)), (6, .int (x6_25)), (5, .int (x5_22)), (4, .int (r16)), (3, .int (x3_7)), (0, .ref (a 0)), (1, .ref (d 0)), (2, .int (x2))]) hx hb dX1_bestOffers_28 hl (by decide) rfl (fun ls hl => ?_)
  exact w_X1_bestOffers_30 C G hA hR x2 x3_7 r16 T FU x5_22 x6_25 x7_28 r12 _ _ _ (lv_sub hl [5, 6, 7, 4, 3, 2, 1, 0] rfl) hP hD hS hf

theorem in_X1_hadBits_X1 : ∀ w ∈ wsX10, w ∈ wsX1_hadBits := by decide +kernel
theorem in_X1_hadBits_X5 : ∀ w ∈ wsX50, w ∈ wsX1_hadBits := by decide +kernel
def f_X1_hadBits_34 (x1 : Int32) (x2 : Int32) (N : Tw) (K4 : Int32 → Int32 → Option Int32) : Option Int32 :=
  lett (x2 + 1) fun x2_34 =>
  K4 x1 x2_34
set_option maxHeartbeats 4000000 in
set_option maxRecDepth 100000 in
theorem b_X1_hadBits_34 {p : Program} {l : Launch} {e : Env} {s : State} {m : MethodId} {args : Array Value} {below : List Frame} {meth : Method} {c : Code} {Q : State → Prop} {dC : Nat → ClassId} {dI : Nat → Nat → Nat} {cs : Nat → ClassId} {a : Nat → Nat} {b : Nat → Nat} {res : Int32} (C : CallFix p m c cX1_hadBits 3 s args wsX1_hadBits RX1) (G : GE dC dI cs s) (hR : RPi p l e ({ frames := 0, cells := 0, slots := 0, locals := 0 }) s m args below meth c cX1_hadBits Q res) {N : Tw} (hP : va_P (dC, dI) vwCl (wF (a 0) (b 0) ++ wT cs b N) s.heap) (x1 : Int32) (x2 : Int32) (_ : Tw) {K4 : Int32 → Int32 → Option Int32} (hK4 : ∀ (x1 : Int32) (x2 : Int32) (ls : Array Slot), lv_has ls 3 [(0, .ref (a 0)), (1, .int (x1)), (2, .int (x2))] → K4 x1 x2 = some res → W p l e ({ frames := 0, cells := 0, slots := 0, locals := 0 }) s m args below meth c s.heap [] 0 0 Q (F0 m 4 ls [])) (ls : Array Slot) (hl : lv_has ls 3 [(0, .ref (a 0)), (1, .int (x1)), (2, .int (x2))]) (hf : f_X1_hadBits_34 x1 x2 N K4 = some res) : W p l e ({ frames := 0, cells := 0, slots := 0, locals := 0 }) s m args below meth c s.heap [] 0 0 Q (F0 m 34 ls []) := by
  obtain ⟨hx, hb, hml, hown, hts⟩ := id C
  obtain ⟨hK, hN⟩ := id G
  unfold f_X1_hadBits_34 at hf
  obtain ⟨x2_34, ex2_34⟩ : ∃ y : Int32, y = (x2 + 1) := ⟨_, rfl⟩
  replace hf := lett_s ex2_34 hf
  refine lv_iinc (v := x2_34) (lv' := [(2, .int (x2_34)), (0, .ref (a 0)), (1, .int (x1))]) hx hb dX1_hadBits_34 hl (k := 2) rfl (by rw [ex2_34]; rfl) (by decide) rfl (fun ls hl => ?_)
  refine lv_goto (tgt := 4) hx hb dX1_hadBits_37 (by decide) ?_
  exact hK4 x1 x2_34 _ (lv_sub hl [1, 2, 0] rfl) hf
def f_X1_hadBits_4 (x1 : Int32) (x2 : Int32) (N : Tw) (K4 : Int32 → Int32 → Option Int32) : Option Int32 :=
  if (N.1 5) ≤ x2 then (
    some x1
  ) else (
    gi (x2) 8 <|
    if ((N.2 6) (x2).toNatClampNeg) = (1 : Int32) then (
      lett (x1 ||| ((1 : Int32) <<< (x2 &&& 31))) fun x1_33 =>
      f_X1_hadBits_34 x1_33 x2 N K4
    ) else (
      f_X1_hadBits_34 x1 x2 N K4
    )
  )
set_option maxHeartbeats 4000000 in
set_option maxRecDepth 100000 in
theorem b_X1_hadBits_4 {p : Program} {l : Launch} {e : Env} {s : State} {m : MethodId} {args : Array Value} {below : List Frame} {meth : Method} {c : Code} {Q : State → Prop} {dC : Nat → ClassId} {dI : Nat → Nat → Nat} {cs : Nat → ClassId} {a : Nat → Nat} {b : Nat → Nat} {res : Int32} (C : CallFix p m c cX1_hadBits 3 s args wsX1_hadBits RX1) (G : GE dC dI cs s) (hR : RPi p l e ({ frames := 0, cells := 0, slots := 0, locals := 0 }) s m args below meth c cX1_hadBits Q res) {N : Tw} (hP : va_P (dC, dI) vwCl (wF (a 0) (b 0) ++ wT cs b N) s.heap) (x1 : Int32) (x2 : Int32) (_ : Tw) {K4 : Int32 → Int32 → Option Int32} (hK4 : ∀ (x1 : Int32) (x2 : Int32) (ls : Array Slot), lv_has ls 3 [(0, .ref (a 0)), (1, .int (x1)), (2, .int (x2))] → K4 x1 x2 = some res → W p l e ({ frames := 0, cells := 0, slots := 0, locals := 0 }) s m args below meth c s.heap [] 0 0 Q (F0 m 4 ls [])) (ls : Array Slot) (hl : lv_has ls 3 [(0, .ref (a 0)), (1, .int (x1)), (2, .int (x2))]) (hf : f_X1_hadBits_4 x1 x2 N K4 = some res) : W p l e ({ frames := 0, cells := 0, slots := 0, locals := 0 }) s m args below meth c s.heap [] 0 0 Q (F0 m 4 ls []) := by
  obtain ⟨hx, hb, hml, hown, hts⟩ := id C
  obtain ⟨hK, hN⟩ := id G
  unfold f_X1_hadBits_4 at hf
  refine lv_iload_n hx hb dX1_hadBits_4 rfl (lv_at hl 2 rfl) ?_
  refine lv_aload_n hx hb dX1_hadBits_5 rfl (lv_at hl 0 rfl) ?_
  refine va_get (D := (dC, dI)) (ci := 1) (v := .ref (b 0)) (C := RX1) (T := TX1) (N := 1) hx hb hts in_X1_hadBits_X1 hown hK hP 0 rfl rfl 0 (by decide) (hts (.fieldLink RX1 12 "BackLoans$Foresight" "trial" "LBackLoans$Town;") (by decide +kernel)) (fun _ h9 => h9) rfl dX1_hadBits_6 ?_
  refine va_get (D := (dC, dI)) (ci := 5) (v := .int ((N.1 5))) (C := RX5) (T := TX5) (N := 17) hx hb hts in_X1_hadBits_X5 hown hK hP 1 rfl rfl 5 (by decide) (hts (.fieldLink RX1 37 "BackLoans$Town" "loans" "I") (by decide +kernel)) (fun _ h9 => h9) rfl dX1_hadBits_9 ?_
  refine lv_icmp_ge (tgt := 40) hx hb dX1_hadBits_12 (by decide) (fun c1 => ?_) (fun c1 => ?_)
  · replace hf := it_t c1 hf
    refine lv_iload_n hx hb dX1_hadBits_40 rfl (lv_at hl 1 rfl) ?_
    exact hR _ _ _ dX1_hadBits_41 hf
  · replace hf := it_f c1 hf
    refine lv_aload_n hx hb dX1_hadBits_15 rfl (lv_at hl 0 rfl) ?_
    refine va_get (D := (dC, dI)) (ci := 1) (v := .ref (b 0)) (C := RX1) (T := TX1) (N := 1) hx hb hts in_X1_hadBits_X1 hown hK hP 0 rfl rfl 0 (by decide) (hts (.fieldLink RX1 12 "BackLoans$Foresight" "trial" "LBackLoans$Town;") (by decide +kernel)) (fun _ h9 => h9) rfl dX1_hadBits_16 ?_
    refine va_get (D := (dC, dI)) (ci := 5) (v := .ref (b 7)) (C := RX5) (T := TX5) (N := 17) hx hb hts in_X1_hadBits_X5 hown hK hP 1 rfl rfl 13 (by decide) (hts (.fieldLink RX1 78 "BackLoans$Town" "state" "[I") (by decide +kernel)) (fun _ h9 => h9) rfl dX1_hadBits_19 ?_
    refine lv_iload_n hx hb dX1_hadBits_22 rfl (lv_at hl 2 rfl) ?_
    obtain ⟨hi2, hf⟩ := gi_e hf
    refine va_iald hx hb hK hP 8 0 rfl rfl hi2 dX1_hadBits_23 ?_
    refine lv_iconst (v := 1) hx hb dX1_hadBits_24 (by decide) ?_
    refine lv_icmp_ne (tgt := 34) hx hb dX1_hadBits_25 (by decide) (fun c3 => ?_) (fun c3 => ?_)
    · replace hf := it_f c3 hf
      exact b_X1_hadBits_34 C G hR hP x1 x2 N hK4 _ (lv_sub hl [0, 1, 2] rfl) hf
    · replace hf := it_t c3 hf
      refine lv_iload_n hx hb dX1_hadBits_28 rfl (lv_at hl 1 rfl) ?_
      refine lv_iconst (v := 1) hx hb dX1_hadBits_29 (by decide) ?_
      refine lv_iload_n hx hb dX1_hadBits_30 rfl (lv_at hl 2 rfl) ?_
      refine lv_ishl hx hb dX1_hadBits_31 ?_
      refine lv_ior hx hb dX1_hadBits_32 ?_
      refine lv_topi (fun x1_33 ex1_33 => ?_)
      replace hf := lett_s ex1_33 hf
      refine lv_istore_n (lv' := [(1, .int (x1_33)), (0, .ref (a 0)), (2, .int (x2))]) hx hb dX1_hadBits_33 rfl hl (by decide) rfl (fun ls hl => ?_)
      exact b_X1_hadBits_34 C G hR hP x1_33 x2 N hK4 _ (lv_sub hl [1, 0, 2] rfl) hf
def l_X1_hadBits_4 (N : Tw)  (n : Nat) (x1 : Int32) (x2 : Int32) : Option Int32 := itr (fun (k : Int32 × Int32 → Option Int32) (z : Int32 × Int32) => f_X1_hadBits_4 z.1 z.2 N (fun x1 x2 => k (x1, x2))) n (x1, x2)
set_option maxHeartbeats 4000000 in
set_option maxRecDepth 100000 in
theorem w_X1_hadBits_4 {p : Program} {l : Launch} {e : Env} {s : State} {m : MethodId} {args : Array Value} {below : List Frame} {meth : Method} {c : Code} {Q : State → Prop} {dC : Nat → ClassId} {dI : Nat → Nat → Nat} {cs : Nat → ClassId} {a : Nat → Nat} {b : Nat → Nat} {res : Int32} (C : CallFix p m c cX1_hadBits 3 s args wsX1_hadBits RX1) (G : GE dC dI cs s) (hR : RPi p l e ({ frames := 0, cells := 0, slots := 0, locals := 0 }) s m args below meth c cX1_hadBits Q res) {N : Tw} (hP : va_P (dC, dI) vwCl (wF (a 0) (b 0) ++ wT cs b N) s.heap)  (_ : Tw)   : ∀ (n : Nat) (x1 : Int32) (x2 : Int32) (ls : Array Slot), lv_has ls 3 [(0, .ref (a 0)), (1, .int (x1)), (2, .int (x2))] → l_X1_hadBits_4 N n x1 x2 = some res → W p l e ({ frames := 0, cells := 0, slots := 0, locals := 0 }) s m args below meth c s.heap [] 0 0 Q (F0 m 4 ls []) := by
  intro n
  induction n with
  | zero => intro x1 x2 ls hl hf; exact absurd hf (by simp [l_X1_hadBits_4, itr])
  | succ n ih => intro x1 x2 ls hl hf; exact b_X1_hadBits_4 C G hR hP x1 x2 N (K4 := fun x1 x2 => l_X1_hadBits_4 N n x1 x2) (fun x1 x2 ls hl hf => ih x1 x2 ls hl hf) ls hl hf
def f_X1_hadBits  (N : Tw) : Option Int32 :=
  lett (0 : Int32) fun x1_1 =>
  lett (0 : Int32) fun x2_3 =>
  l_X1_hadBits_4 N FU x1_1 x2_3
set_option maxHeartbeats 4000000 in
set_option maxRecDepth 100000 in
theorem c_X1_hadBits (l : Launch) (dC : Nat → ClassId) (dI : Nat → Nat → Nat) (cs : Nat → ClassId) (a : Nat → Nat) (b : Nat → Nat) (N : Tw)  (res : Int32) (hf : f_X1_hadBits N = some res) : Met l yX1_hadBits wsX1_hadBits ({ frames := 0, cells := 0, slots := 0, locals := 0 }) (va_Pc [.ref (a 0)] (fun U => va_P (dC, dI) vwCl (wF (a 0) (b 0) ++ wT cs b N) U.heap ∧ GE dC dI cs U)) (vp_Si (fun r => r = res)) 0 0 (fun _ => False) := by
  refine Met.ofW (cc := cX1_hadBits) (maxL := 3) (ret := (some .int)) (by decide) rfl ?_
  intro p e s m args below meth c s₁ B hml hv
  obtain ⟨rfl, hP, G⟩ := hv
  have hts := atoms_spec (ws := wsX1_hadBits) B.pre
  have hown : s.vm.findClass RX1 = some m.cls := findClass_of_methodNamed B.named
  have hlocks := B.notSynchronized
  have hx := B.exec
  have hb := B.bytes
  have hr := B.returns
  have C : CallFix p m c cX1_hadBits 3 s _ wsX1_hadBits RX1 := ⟨hx, hb, hml, hown, hts⟩
  obtain ⟨hK, hN⟩ := id G
  have hR : RPi p l e ({ frames := 0, cells := 0, slots := 0, locals := 0 }) s m ([.ref (a 0)] : List Value).toArray below meth c cX1_hadBits (MQ below (vp_Si (fun r => r = res)) ([.ref (a 0)] : List Value).toArray s 0 0 (fun _ => False)) res := fun pc ls r dd h => W.iret hx hb hr (fun t ht hW => ⟨r, rfl, Option.some.inj h, ht⟩) (fun q hq => by cases hq) dd
  have hl := lv_entry ([.ref (a 0)]) (n := 3) (Nat.le_of_ble_eq_true rfl)
  rw [lg_entry_eq]
  generalize (lg_sl ([.ref (a 0)]) ++ List.replicate (3 - (lg_sl ([.ref (a 0)])).length) Slot.unset).toArray = ls at hl ⊢
  have hl : lv_has ls 3 [(0, .ref (a 0))] := hl
  unfold f_X1_hadBits at hf
  refine lv_iconst (v := 0) hx hb dX1_hadBits_0 (by decide) ?_
  refine lv_topi (fun x1_1 ex1_1 => ?_)
  replace hf := lett_s ex1_1 hf
  refine lv_istore_n (lv' := [(1, .int (x1_1)), (0, .ref (a 0))]) hx hb dX1_hadBits_1 rfl hl (by decide) rfl (fun ls hl => ?_)
  refine lv_iconst (v := 0) hx hb dX1_hadBits_2 (by decide) ?_
  refine lv_topi (fun x2_3 ex2_3 => ?_)
  replace hf := lett_s ex2_3 hf
  refine lv_istore_n (lv' := [(2, .int (x2_3)), (1, .int (x1_1)), (0, .ref (a 0))]) hx hb dX1_hadBits_3 rfl hl (by decide) rfl (fun ls hl => ?_)
  exact w_X1_hadBits_4 C G hR hP N FU x1_1 x2_3 _ (lv_sub hl [2, 1, 0] rfl) hf

theorem in_X1_hadInMonth_X1 : ∀ w ∈ wsX10, w ∈ wsX1_hadInMonth := by decide +kernel
theorem in_X1_hadInMonth_X5 : ∀ w ∈ wsX50, w ∈ wsX1_hadInMonth := by decide +kernel
def f_X1_hadInMonth_82 (x3 : Int32) (x5 : Int32) (x6 : Int32) (x7 : Int32) (N : Tw) (T : Tw) (K38 : Int32 → Int32 → Option (Int32 × Tw)) : Option (Int32 × Tw) :=
  lett (x7 + 1) fun x7_82 =>
  K38 x6 x7_82
set_option maxHeartbeats 4000000 in
set_option maxRecDepth 100000 in
theorem b_X1_hadInMonth_82 {p : Program} {l : Launch} {e : Env} {s : State} {m : MethodId} {args : Array Value} {below : List Frame} {meth : Method} {c : Code} {Q : State → Prop} {dC : Nat → ClassId} {dI : Nat → Nat → Nat} {cs : Nat → ClassId} {A : Nat → Prop} {a : Nat → Nat} {b : Nat → Nat} {d : Nat → Nat} {res : Int32 × Tw} (C : CallFix p m c cX1_hadInMonth 8 s args wsX1_hadInMonth RX1) (G : GE dC dI cs s) (hA : ∀ q : Nat, s.heap.size ≤ q → A q) {T : Tw} (hR : RTi p l e ({ frames := 5, cells := 0, slots := 0, locals := 111 }) s m args below meth c cX1_hadInMonth Q (dC, dI) A (fun u : Tw => (wF (a 0) (b 0) ++ wT cs b u ++ wT cs d T)) res) (x3 : Int32) (x5 : Int32) (x6 : Int32) (x7 : Int32) (N : Tw) (_ : Tw) {K38 : Int32 → Int32 → Option (Int32 × Tw)} (hK38 : ∀ (x6 : Int32) (x7 : Int32) (H : Heap) (locs : List Loc) (ls : Array Slot), lv_has ls 8 [(0, .ref (a 0)), (3, .int (x3)), (5, .int (x5)), (6, .int (x6)), (7, .int (x7))] → va_P (dC, dI) vwCl (wF (a 0) (b 0) ++ wT cs b N ++ wT cs d T) H → va_D A (wF (a 0) (b 0) ++ wT cs b N ++ wT cs d T) → va_S A s.heap H locs → K38 x6 x7 = some res → W p l e ({ frames := 5, cells := 0, slots := 0, locals := 111 }) s m args below meth c H locs 0 0 Q (F0 m 38 ls [])) (H : Heap) (locs : List Loc) (ls : Array Slot) (hl : lv_has ls 8 [(0, .ref (a 0)), (3, .int (x3)), (5, .int (x5)), (6, .int (x6)), (7, .int (x7))]) (hP : va_P (dC, dI) vwCl (wF (a 0) (b 0) ++ wT cs b N ++ wT cs d T) H) (hD : va_D A (wF (a 0) (b 0) ++ wT cs b N ++ wT cs d T)) (hS : va_S A s.heap H locs) (hf : f_X1_hadInMonth_82 x3 x5 x6 x7 N T K38 = some res) : W p l e ({ frames := 5, cells := 0, slots := 0, locals := 111 }) s m args below meth c H locs 0 0 Q (F0 m 82 ls []) := by
  obtain ⟨hx, hb, hml, hown, hts⟩ := id C
  obtain ⟨hK, hN⟩ := id G
  unfold f_X1_hadInMonth_82 at hf
  obtain ⟨x7_82, ex7_82⟩ : ∃ y : Int32, y = (x7 + 1) := ⟨_, rfl⟩
  replace hf := lett_s ex7_82 hf
  refine lv_iinc (v := x7_82) (lv' := [(7, .int (x7_82)), (0, .ref (a 0)), (3, .int (x3)), (5, .int (x5)), (6, .int (x6))]) hx hb dX1_hadInMonth_82 hl (k := 4) rfl (by rw [ex7_82]; rfl) (by decide) rfl (fun ls hl => ?_)
  refine lv_goto (tgt := 38) hx hb dX1_hadInMonth_85 (by decide) ?_
  exact hK38 x6 x7_82 _ _ _ (lv_sub hl [1, 2, 3, 4, 0] rfl) hP hD hS hf
def f_X1_hadInMonth_38 (x3 : Int32) (x5 : Int32) (x6 : Int32) (x7 : Int32) (N : Tw) (T : Tw) (K38 : Int32 → Int32 → Option (Int32 × Tw)) : Option (Int32 × Tw) :=
  if (N.1 5) ≤ x7 then (
    some (x6, N)
  ) else (
    bn (f_X7_hasBit x5 x7) fun r54 =>
    if r54 = 0 then (
      f_X1_hadInMonth_82 x3 x5 x6 x7 N T K38
    ) else (
      bn (f_X5_wholeOf x7 N) fun r66 =>
      if r66 = x3 then (
        lett (x6 ||| ((1 : Int32) <<< (x7 &&& 31))) fun x6_80 =>
        f_X1_hadInMonth_82 x3 x5 x6_80 x7 N T K38
      ) else (
        f_X1_hadInMonth_82 x3 x5 x6 x7 N T K38
      )
    )
  )
set_option maxHeartbeats 4000000 in
set_option maxRecDepth 100000 in
theorem b_X1_hadInMonth_38 {p : Program} {l : Launch} {e : Env} {s : State} {m : MethodId} {args : Array Value} {below : List Frame} {meth : Method} {c : Code} {Q : State → Prop} {dC : Nat → ClassId} {dI : Nat → Nat → Nat} {cs : Nat → ClassId} {A : Nat → Prop} {a : Nat → Nat} {b : Nat → Nat} {d : Nat → Nat} {res : Int32 × Tw} (C : CallFix p m c cX1_hadInMonth 8 s args wsX1_hadInMonth RX1) (G : GE dC dI cs s) (hA : ∀ q : Nat, s.heap.size ≤ q → A q) {T : Tw} (hR : RTi p l e ({ frames := 5, cells := 0, slots := 0, locals := 111 }) s m args below meth c cX1_hadInMonth Q (dC, dI) A (fun u : Tw => (wF (a 0) (b 0) ++ wT cs b u ++ wT cs d T)) res) (x3 : Int32) (x5 : Int32) (x6 : Int32) (x7 : Int32) (N : Tw) (_ : Tw) {K38 : Int32 → Int32 → Option (Int32 × Tw)} (hK38 : ∀ (x6 : Int32) (x7 : Int32) (H : Heap) (locs : List Loc) (ls : Array Slot), lv_has ls 8 [(0, .ref (a 0)), (3, .int (x3)), (5, .int (x5)), (6, .int (x6)), (7, .int (x7))] → va_P (dC, dI) vwCl (wF (a 0) (b 0) ++ wT cs b N ++ wT cs d T) H → va_D A (wF (a 0) (b 0) ++ wT cs b N ++ wT cs d T) → va_S A s.heap H locs → K38 x6 x7 = some res → W p l e ({ frames := 5, cells := 0, slots := 0, locals := 111 }) s m args below meth c H locs 0 0 Q (F0 m 38 ls [])) (H : Heap) (locs : List Loc) (ls : Array Slot) (hl : lv_has ls 8 [(0, .ref (a 0)), (3, .int (x3)), (5, .int (x5)), (6, .int (x6)), (7, .int (x7))]) (hP : va_P (dC, dI) vwCl (wF (a 0) (b 0) ++ wT cs b N ++ wT cs d T) H) (hD : va_D A (wF (a 0) (b 0) ++ wT cs b N ++ wT cs d T)) (hS : va_S A s.heap H locs) (hf : f_X1_hadInMonth_38 x3 x5 x6 x7 N T K38 = some res) : W p l e ({ frames := 5, cells := 0, slots := 0, locals := 111 }) s m args below meth c H locs 0 0 Q (F0 m 38 ls []) := by
  obtain ⟨hx, hb, hml, hown, hts⟩ := id C
  obtain ⟨hK, hN⟩ := id G
  unfold f_X1_hadInMonth_38 at hf
  refine lv_iload hx hb dX1_hadInMonth_38 (lv_at hl 4 rfl) ?_
  refine lv_aload_n hx hb dX1_hadInMonth_40 rfl (lv_at hl 0 rfl) ?_
  refine va_get (D := (dC, dI)) (ci := 1) (v := .ref (b 0)) (C := RX1) (T := TX1) (N := 1) hx hb hts in_X1_hadInMonth_X1 hown hK hP 0 rfl rfl 0 (by decide) (hts (.fieldLink RX1 12 "BackLoans$Foresight" "trial" "LBackLoans$Town;") (by decide +kernel)) (fun _ h9 => h9) rfl dX1_hadInMonth_41 ?_
  refine va_get (D := (dC, dI)) (ci := 5) (v := .int ((N.1 5))) (C := RX5) (T := TX5) (N := 17) hx hb hts in_X1_hadInMonth_X5 hown hK hP 1 rfl rfl 5 (by decide) (hts (.fieldLink RX1 37 "BackLoans$Town" "loans" "I") (by decide +kernel)) (fun _ h9 => h9) rfl dX1_hadInMonth_44 ?_
  refine lv_icmp_ge (tgt := 88) hx hb dX1_hadInMonth_47 (by decide) (fun c1 => ?_) (fun c1 => ?_)
  · replace hf := it_t c1 hf
    refine lv_iload hx hb dX1_hadInMonth_88 (lv_at hl 3 rfl) ?_
    exact hR _ _ _ _ _ _ dX1_hadInMonth_90 hf hP hD hS
  · replace hf := it_f c1 hf
    refine lv_iload hx hb dX1_hadInMonth_50 (lv_at hl 2 rfl) ?_
    refine lv_iload hx hb dX1_hadInMonth_52 (lv_at hl 4 rfl) ?_
    obtain ⟨r54, hr54, hf⟩ := bn_e hf
    have hPc := hP.sub (ws' := ([] : va_W)) [] rfl
    refine vp_callSi (va_Run.run (va_runSN (As := [.int (x5), .int (x7)]) (rest := []) C (c_X7_hasBit l dC dI cs x5 x7 r54 hr54) ⟨va_cnB 2 hts gX1_hadInMonth_X7_hasBit_n63 rfl rfl rfl (hN (RX1, 63, yX7_hasBit, RX7) (by decide +kernel)) (hts (.initialized RX7) (by decide +kernel)) (by decide +kernel) ⟨Nat.le_of_ble_eq_true rfl, Nat.le_of_ble_eq_true rfl⟩, (hts (.static yX7_hasBit) (by decide +kernel)), trivial⟩ ⟨(fun a U g mk q => ⟨q.1, q.2.1, GE.calling q.2.2⟩), (fun U hU hW => ⟨rfl, by rw [hU]; exact hPc, GE.warm hW G⟩)⟩ rfl rfl hl.1 rfl (lv_room (Nat.le_of_ble_eq_true rfl)) dX1_hadInMonth_54 ⟨Nat.le_of_ble_eq_true rfl, Nat.le_of_ble_eq_true rfl⟩)) (fun qr54 hqr54 => ?_)
    obtain ⟨hqr54, hnr54⟩ := hqr54
    obtain rfl := hqr54.symm
    refine lv_if_eq (tgt := 82) hx hb dX1_hadInMonth_57 (by decide) (fun c2 => ?_) (fun c2 => ?_)
    · replace hf := it_t c2 hf
      exact b_X1_hadInMonth_82 C G hA hR x3 x5 x6 x7 N T hK38 _ _ _ (lv_sub hl [0, 1, 2, 3, 4] rfl) hP hD hS hf
    · replace hf := it_f c2 hf
      refine lv_aload_n hx hb dX1_hadInMonth_60 rfl (lv_at hl 0 rfl) ?_
      refine va_get (D := (dC, dI)) (ci := 1) (v := .ref (b 0)) (C := RX1) (T := TX1) (N := 1) hx hb hts in_X1_hadInMonth_X1 hown hK hP 0 rfl rfl 0 (by decide) (hts (.fieldLink RX1 12 "BackLoans$Foresight" "trial" "LBackLoans$Town;") (by decide +kernel)) (fun _ h9 => h9) rfl dX1_hadInMonth_61 ?_
      refine lv_iload hx hb dX1_hadInMonth_64 (lv_at hl 4 rfl) ?_
      obtain ⟨r66, hr66, hf⟩ := bn_e hf
      have hPc := hP.sub (ws' := (wT cs b N)) [1, 2, 3, 4, 5, 6, 7, 8, 9, 10, 11] rfl
      refine vp_callSi (W.runV (As := [.int (x7)]) (rest := []) C (c_X5_wholeOf l dC dI cs b N x7 r66 hr66) (cwV 1 hts gX1_hadInMonth_X5_wholeOf rfl rfl rfl (by decide +kernel) ⟨Nat.le_of_ble_eq_true rfl, Nat.le_of_ble_eq_true rfl⟩) ⟨(fun a U g mk q => ⟨q.1, q.2.1, GE.calling q.2.2⟩), va_recv hK hPc (ci := 5) (q0 := 0) rfl rfl, (fun U hU hW => ⟨rfl, by rw [hU]; exact hPc, GE.warm hW G⟩)⟩ rfl rfl hl.1 rfl (lv_room (Nat.le_of_ble_eq_true rfl)) dX1_hadInMonth_66 ⟨Nat.le_of_ble_eq_true rfl, Nat.le_of_ble_eq_true rfl⟩) (fun qr66 hqr66 => ?_)
      obtain rfl := hqr66.symm
      refine lv_iload_n hx hb dX1_hadInMonth_69 rfl (lv_at hl 1 rfl) ?_
      refine lv_icmp_ne (tgt := 82) hx hb dX1_hadInMonth_70 (by decide) (fun c3 => ?_) (fun c3 => ?_)
      · replace hf := it_f c3 hf
        exact b_X1_hadInMonth_82 C G hA hR x3 x5 x6 x7 N T hK38 _ _ _ (lv_sub hl [0, 1, 2, 3, 4] rfl) hP hD hS hf
      · replace hf := it_t c3 hf
        refine lv_iload hx hb dX1_hadInMonth_73 (lv_at hl 3 rfl) ?_
        refine lv_iconst (v := 1) hx hb dX1_hadInMonth_75 (by decide) ?_
        refine lv_iload hx hb dX1_hadInMonth_76 (lv_at hl 4 rfl) ?_
        refine lv_ishl hx hb dX1_hadInMonth_78 ?_
        refine lv_ior hx hb dX1_hadInMonth_79 ?_
        refine lv_topi (fun x6_80 ex6_80 => ?_)
        replace hf := lett_s ex6_80 hf
        refine lv_istore (lv' := [(6, .int (x6_80)), (0, .ref (a 0)), (3, .int (x3)), (5, .int (x5)), (7, .int (x7))]) hx hb dX1_hadInMonth_80 hl (by decide) rfl (fun ls hl => ?_)
        exact b_X1_hadInMonth_82 C G hA hR x3 x5 x6_80 x7 N T hK38 _ _ _ (lv_sub hl [1, 2, 3, 0, 4] rfl) hP hD hS hf
def l_X1_hadInMonth_38 (x3 : Int32) (x5 : Int32) (N : Tw) (T : Tw)  (n : Nat) (x6 : Int32) (x7 : Int32) : Option (Int32 × Tw) := itr (fun (k : Int32 × Int32 → Option (Int32 × Tw)) (z : Int32 × Int32) => f_X1_hadInMonth_38 x3 x5 z.1 z.2 N T (fun x6 x7 => k (x6, x7))) n (x6, x7)
set_option maxHeartbeats 4000000 in
set_option maxRecDepth 100000 in
theorem w_X1_hadInMonth_38 {p : Program} {l : Launch} {e : Env} {s : State} {m : MethodId} {args : Array Value} {below : List Frame} {meth : Method} {c : Code} {Q : State → Prop} {dC : Nat → ClassId} {dI : Nat → Nat → Nat} {cs : Nat → ClassId} {A : Nat → Prop} {a : Nat → Nat} {b : Nat → Nat} {d : Nat → Nat} {res : Int32 × Tw} (C : CallFix p m c cX1_hadInMonth 8 s args wsX1_hadInMonth RX1) (G : GE dC dI cs s) (hA : ∀ q : Nat, s.heap.size ≤ q → A q) {T : Tw} (hR : RTi p l e ({ frames := 5, cells := 0, slots := 0, locals := 111 }) s m args below meth c cX1_hadInMonth Q (dC, dI) A (fun u : Tw => (wF (a 0) (b 0) ++ wT cs b u ++ wT cs d T)) res) (x3 : Int32) (x5 : Int32) (N : Tw) (_ : Tw)   : ∀ (n : Nat) (x6 : Int32) (x7 : Int32) (H : Heap) (locs : List Loc) (ls : Array Slot), lv_has ls 8 [(0, .ref (a 0)), (3, .int (x3)), (5, .int (x5)), (6, .int (x6)), (7, .int (x7))] → va_P (dC, dI) vwCl (wF (a 0) (b 0) ++ wT cs b N ++ wT cs d T) H → va_D A (wF (a 0) (b 0) ++ wT cs b N ++ wT cs d T) → va_S A s.heap H locs → l_X1_hadInMonth_38 x3 x5 N T n x6 x7 = some res → W p l e ({ frames := 5, cells := 0, slots := 0, locals := 111 }) s m args below meth c H locs 0 0 Q (F0 m 38 ls []) := by
  intro n
  induction n with
  | zero => intro x6 x7 H locs ls hl hP hD hS hf; exact absurd hf (by simp [l_X1_hadInMonth_38, itr])
  | succ n ih => intro x6 x7 H locs ls hl hP hD hS hf; exact b_X1_hadInMonth_38 C G hA hR x3 x5 x6 x7 N T (K38 := fun x6 x7 => l_X1_hadInMonth_38 x3 x5 N T n x6 x7) (fun x6 x7 H locs ls hl hP hD hS hf => ih x6 x7 H locs ls hl hP hD hS hf) H locs ls hl hP hD hS hf
def f_X1_hadInMonth (x2 : Int32) (x3 : Int32) (N : Tw) (T : Tw) : Option (Int32 × Tw) :=
  bn (f_X1_lookAhead x2 N T) fun r3 =>
  bn (f_X1_hadBits r3) fun r8 =>
  bn (f_X5_liveMonth (0 : Int32) r3) fun r18 =>
  bn (f_X1_hadBits r18) fun r22 =>
  lett (r22 &&& (r8 ^^^ (-1 : Int32))) fun x5_30 =>
  lett (0 : Int32) fun x6_33 =>
  lett (0 : Int32) fun x7_36 =>
  l_X1_hadInMonth_38 x3 x5_30 r18 T FU x6_33 x7_36
set_option maxHeartbeats 4000000 in
set_option maxRecDepth 100000 in
theorem c_X1_hadInMonth (l : Launch) (dC : Nat → ClassId) (dI : Nat → Nat → Nat) (cs : Nat → ClassId) (a : Nat → Nat) (b : Nat → Nat) (d : Nat → Nat) (sz : Nat) (N : Tw) (T : Tw) (x2 : Int32) (x3 : Int32) (res : Int32 × Tw) (hf : f_X1_hadInMonth x2 x3 N T = some res) : Met l yX1_hadInMonth wsX1_hadInMonth ({ frames := 5, cells := 0, slots := 0, locals := 111 }) (va_Pc [.ref (a 0), .ref (d 0), .int (x2), .int (x3)] (fun U => U.heap.size = sz ∧ va_P (dC, dI) vwCl (wF (a 0) (b 0) ++ wT cs b N ++ wT cs d T) U.heap ∧ GE dC dI cs U ∧ va_D (fun _ => True) (wF (a 0) (b 0) ++ wT cs b N ++ wT cs d T))) (va_Qi (fun r (u : Tw) => r = res.1 ∧ u = res.2) (fun u t => va_P (dC, dI) vwCl ((fun u : Tw => (wF (a 0) (b 0) ++ wT cs b u ++ wT cs d T)) u) t.heap ∧ va_D (va_A (wF (a 0) (b 0) ++ wT cs b N ++ wT cs d T) sz) ((fun u : Tw => (wF (a 0) (b 0) ++ wT cs b u ++ wT cs d T)) u)) (va_A (wF (a 0) (b 0) ++ wT cs b N ++ wT cs d T) sz)) 0 0 (va_A (wF (a 0) (b 0) ++ wT cs b N ++ wT cs d T) sz) := by
  refine Met.ofW (cc := cX1_hadInMonth) (maxL := 8) (ret := (some .int)) (by decide) rfl ?_
  intro p e s m args below meth c s₁ B hml hv
  obtain ⟨rfl, hsz, hP, G, hD0⟩ := hv
  have hts := atoms_spec (ws := wsX1_hadInMonth) B.pre
  have hown : s.vm.findClass RX1 = some m.cls := findClass_of_methodNamed B.named
  have hlocks := B.notSynchronized
  have hx := B.exec
  have hb := B.bytes
  have hr := B.returns
  have C : CallFix p m c cX1_hadInMonth 8 s _ wsX1_hadInMonth RX1 := ⟨hx, hb, hml, hown, hts⟩
  obtain ⟨hK, hN⟩ := id G
  subst hsz
  have hD := hD0.self (sz := s.heap.size)
  generalize hAe : va_A (wF (a 0) (b 0) ++ wT cs b N ++ wT cs d T) s.heap.size = A at hD ⊢
  have hA : ∀ q : Nat, s.heap.size ≤ q → A q := fun q h => by rw [← hAe]; exact Or.inr h
  have hS : va_S A s.heap s.heap [] := va_S.rf
  have hR : RTi p l e ({ frames := 5, cells := 0, slots := 0, locals := 111 }) s m ([.ref (a 0), .ref (d 0), .int (x2), .int (x3)] : List Value).toArray below meth c cX1_hadInMonth (MQ below (va_Qi (fun r (u : Tw) => r = res.1 ∧ u = res.2) (fun u t => va_P (dC, dI) vwCl ((fun u : Tw => (wF (a 0) (b 0) ++ wT cs b u ++ wT cs d T)) u) t.heap ∧ va_D A ((fun u : Tw => (wF (a 0) (b 0) ++ wT cs b u ++ wT cs d T)) u)) A) ([.ref (a 0), .ref (d 0), .int (x2), .int (x3)] : List Value).toArray s 0 0 A) (dC, dI) A (fun u : Tw => (wF (a 0) (b 0) ++ wT cs b u ++ wT cs d T)) res := fun H locs pc ls r u dd h hP hD hS => W.iret hx hb hr (fun t ht hW => ⟨⟨r, u, rfl, by cases h; exact ⟨rfl, rfl⟩, by rw [ht]; exact hP, hD⟩, hS.F ht⟩) hS.2.2 dd
  have hl := lv_entry ([.ref (a 0), .ref (d 0), .int (x2), .int (x3)]) (n := 8) (Nat.le_of_ble_eq_true rfl)
  rw [lg_entry_eq]
  generalize (lg_sl ([.ref (a 0), .ref (d 0), .int (x2), .int (x3)]) ++ List.replicate (8 - (lg_sl ([.ref (a 0), .ref (d 0), .int (x2), .int (x3)])).length) Slot.unset).toArray = ls at hl ⊢
  have hl : lv_has ls 8 [(0, .ref (a 0)), (1, .ref (d 0)), (2, .int (x2)), (3, .int (x3))] := hl
  unfold f_X1_hadInMonth at hf
  refine lv_aload_n hx hb dX1_hadInMonth_0 rfl (lv_at hl 0 rfl) ?_
  refine lv_aload_n hx hb dX1_hadInMonth_1 rfl (lv_at hl 1 rfl) ?_
  refine lv_iload_n hx hb dX1_hadInMonth_2 rfl (lv_at hl 2 rfl) ?_
  obtain ⟨r3, hr3, hf⟩ := bn_e hf
  have hPc := hP.sub (ws' := (wF (a 0) (b 0) ++ wT cs b N ++ wT cs d T)) [0, 1, 2, 3, 4, 5, 6, 7, 8, 9, 10, 11, 12, 13, 14, 15, 16, 17, 18, 19, 20, 21, 22] rfl
  have hDc := hD.sub (ws' := (wF (a 0) (b 0) ++ wT cs b N ++ wT cs d T)) [0, 1, 2, 3, 4, 5, 6, 7, 8, 9, 10, 11, 12, 13, 14, 15, 16, 17, 18, 19, 20, 21, 22] (by decide) rfl
  have hFc := va_free (wc := (wF (a 0) (b 0) ++ wT cs b N ++ wT cs d T)) hD hS hA [0, 1, 2, 3, 4, 5, 6, 7, 8, 9, 10, 11, 12, 13, 14, 15, 16, 17, 18, 19, 20, 21, 22] rfl
  refine va_callr (va_runV (As := [.ref (d 0), .int (x2)]) (rest := []) C (c_X1_lookAhead l dC dI cs a b d s.heap.size N T x2 r3 hr3) (cwV 2 hts gX1_hadInMonth_X1_lookAhead rfl rfl rfl (by decide +kernel) ⟨Nat.le_of_ble_eq_true rfl, Nat.le_of_ble_eq_true rfl⟩) ⟨(fun a U g mk q => ⟨q.1, q.2.1, q.2.2.1, GE.calling q.2.2.2.1, q.2.2.2.2⟩), va_recv hK hPc (ci := 1) (q0 := 0) rfl rfl, (fun U hU hW => ⟨rfl, by rw [hU], by rw [hU]; exact hPc, GE.warm hW G, hDc.weaken (fun _ _ _ _ => trivial)⟩)⟩ rfl rfl hl.1 rfl (lv_room (Nat.le_of_ble_eq_true rfl)) dX1_hadInMonth_3 ⟨Nat.le_of_ble_eq_true rfl, Nat.le_of_ble_eq_true rfl⟩) hS (fun q _ h => hFc q h) hFc (fun u q t H1 locs ht hvm hw hB hz1 hk1 hS => ?_)
  obtain rfl := hw.symm
  obtain ⟨rfl, hP1, hD1⟩ := hB
  rw [ht] at hP1
  obtain ⟨hP, hD⟩ := va_join (wr := []) (w1 := (wF (a 0) (b 0) ++ wT cs b r3 ++ wT cs d T)) hP hD [0, 1, 2, 3, 4, 5, 6, 7, 8, 9, 10, 11, 12, 13, 14, 15, 16, 17, 18, 19, 20, 21, 22] [] rfl rfl (by decide) (by decide) hk1 hFc hP1 hD1
  generalize H1 = H at hP hS ⊢
  have hP := hP.sub (ws' := (wF (a 0) (b 0) ++ wT cs b r3 ++ wT cs d T)) [0, 1, 2, 3, 4, 5, 6, 7, 8, 9, 10, 11, 12, 13, 14, 15, 16, 17, 18, 19, 20, 21, 22] rfl
  have hD := hD.sub (ws' := (wF (a 0) (b 0) ++ wT cs b r3 ++ wT cs d T)) [0, 1, 2, 3, 4, 5, 6, 7, 8, 9, 10, 11, 12, 13, 14, 15, 16, 17, 18, 19, 20, 21, 22] (by decide) rfl
  refine lv_pop hx hb dX1_hadInMonth_6 rfl ?_
  refine lv_aload_n hx hb dX1_hadInMonth_7 rfl (lv_at hl 0 rfl) ?_
  obtain ⟨r8, hr8, hf⟩ := bn_e hf
  have hPc := hP.sub (ws' := (wF (a 0) (b 0) ++ wT cs b r3)) [0, 1, 2, 3, 4, 5, 6, 7, 8, 9, 10, 11] rfl
  refine vp_callSi (W.runV (As := []) (rest := []) C (c_X1_hadBits l dC dI cs a b r3 r8 hr8) (cwV 0 hts gX1_hadInMonth_X1_hadBits rfl rfl rfl (by decide +kernel) ⟨Nat.le_of_ble_eq_true rfl, Nat.le_of_ble_eq_true rfl⟩) ⟨(fun a U g mk q => ⟨q.1, q.2.1, GE.calling q.2.2⟩), va_recv hK hPc (ci := 1) (q0 := 0) rfl rfl, (fun U hU hW => ⟨rfl, by rw [hU]; exact hPc, GE.warm hW G⟩)⟩ rfl rfl hl.1 rfl (lv_room (Nat.le_of_ble_eq_true rfl)) dX1_hadInMonth_8 ⟨Nat.le_of_ble_eq_true rfl, Nat.le_of_ble_eq_true rfl⟩) (fun qr8 hqr8 => ?_)
  obtain rfl := hqr8.symm
  refine lv_istore (lv' := [(4, .int (r8)), (0, .ref (a 0)), (1, .ref (d 0)), (2, .int (x2)), (3, .int (x3))]) hx hb dX1_hadInMonth_11 hl (by decide) rfl (fun ls hl => ?_)
  refine lv_aload_n hx hb dX1_hadInMonth_13 rfl (lv_at hl 1 rfl) ?_
  refine va_get (D := (dC, dI)) (ci := 1) (v := .ref (b 0)) (C := RX1) (T := TX1) (N := 1) hx hb hts in_X1_hadInMonth_X1 hown hK hP 0 rfl rfl 0 (by decide) (hts (.fieldLink RX1 12 "BackLoans$Foresight" "trial" "LBackLoans$Town;") (by decide +kernel)) (fun _ h9 => h9) rfl dX1_hadInMonth_14 ?_
  refine lv_iconst (v := 0) hx hb dX1_hadInMonth_17 (by decide) ?_
  obtain ⟨r18, hr18, hf⟩ := bn_e hf
  have hPc := hP.sub (ws' := (wT cs b r3)) [1, 2, 3, 4, 5, 6, 7, 8, 9, 10, 11] rfl
  have hDc := hD.sub (ws' := (wT cs b r3)) [1, 2, 3, 4, 5, 6, 7, 8, 9, 10, 11] (by decide) rfl
  have hFc := va_free (wc := (wT cs b r3)) hD hS hA [1, 2, 3, 4, 5, 6, 7, 8, 9, 10, 11] rfl
  refine va_callv (va_runV (As := [.int ((0 : Int32))]) (rest := []) C (c_X5_liveMonth l dC dI cs b H.size r3 (0 : Int32) r18 hr18) (cwV 1 hts gX1_hadInMonth_X5_liveMonth rfl rfl rfl (by decide +kernel) ⟨Nat.le_of_ble_eq_true rfl, Nat.le_of_ble_eq_true rfl⟩) ⟨(fun a U g mk q => ⟨q.1, q.2.1, q.2.2.1, GE.calling q.2.2.2.1, q.2.2.2.2⟩), va_recv hK hPc (ci := 5) (q0 := 0) rfl rfl, (fun U hU hW => ⟨rfl, by rw [hU], by rw [hU]; exact hPc, GE.warm hW G, hDc.weaken (fun _ _ _ _ => trivial)⟩)⟩ rfl rfl hl.1 rfl (lv_room (Nat.le_of_ble_eq_true rfl)) dX1_hadInMonth_18 ⟨Nat.le_of_ble_eq_true rfl, Nat.le_of_ble_eq_true rfl⟩) hS (fun q _ h => hFc q h) hFc (fun u t H1 locs ht hvm hw hB hz1 hk1 hS => ?_)
  obtain rfl := hw.symm
  obtain ⟨hP1, hD1⟩ := hB
  rw [ht] at hP1
  obtain ⟨hP, hD⟩ := va_join (wr := [0, 12, 13, 14, 15, 16, 17, 18, 19, 20, 21, 22].filterMap (fun i => ((wF (a 0) (b 0) ++ wT cs b r3 ++ wT cs d T))[i]?)) (w1 := (wT cs b r18)) hP hD [1, 2, 3, 4, 5, 6, 7, 8, 9, 10, 11] [0, 12, 13, 14, 15, 16, 17, 18, 19, 20, 21, 22] rfl rfl (by decide) (by decide) hk1 hFc hP1 hD1
  generalize H1 = H at hP hS ⊢
  have hP := hP.sub (ws' := (wF (a 0) (b 0) ++ wT cs b r18 ++ wT cs d T)) [0, 12, 13, 14, 15, 16, 17, 18, 19, 20, 21, 22, 1, 2, 3, 4, 5, 6, 7, 8, 9, 10, 11] rfl
  have hD := hD.sub (ws' := (wF (a 0) (b 0) ++ wT cs b r18 ++ wT cs d T)) [0, 12, 13, 14, 15, 16, 17, 18, 19, 20, 21, 22, 1, 2, 3, 4, 5, 6, 7, 8, 9, 10, 11] (by decide) rfl
  refine lv_aload_n hx hb dX1_hadInMonth_21 rfl (lv_at hl 1 rfl) ?_
  obtain ⟨r22, hr22, hf⟩ := bn_e hf
  have hPc := hP.sub (ws' := (wF (a 0) (b 0) ++ wT cs b r18)) [0, 1, 2, 3, 4, 5, 6, 7, 8, 9, 10, 11] rfl
  refine vp_callSi (W.runV (As := []) (rest := []) C (c_X1_hadBits l dC dI cs a b r18 r22 hr22) (cwV 0 hts gX1_hadInMonth_X1_hadBits rfl rfl rfl (by decide +kernel) ⟨Nat.le_of_ble_eq_true rfl, Nat.le_of_ble_eq_true rfl⟩) ⟨(fun a U g mk q => ⟨q.1, q.2.1, GE.calling q.2.2⟩), va_recv hK hPc (ci := 1) (q0 := 0) rfl rfl, (fun U hU hW => ⟨rfl, by rw [hU]; exact hPc, GE.warm hW G⟩)⟩ rfl rfl hl.1 rfl (lv_room (Nat.le_of_ble_eq_true rfl)) dX1_hadInMonth_22 ⟨Nat.le_of_ble_eq_true rfl, Nat.le_of_ble_eq_true rfl⟩) (fun qr22 hqr22 => ?_)
  obtain rfl := hqr22.symm
  refine lv_iload hx hb dX1_hadInMonth_25 (lv_at hl 0 rfl) ?_
  refine lv_iconst (v := -1) hx hb dX1_hadInMonth_27 (by decide) ?_
  refine lv_ixor hx hb dX1_hadInMonth_28 ?_
  refine lv_iand hx hb dX1_hadInMonth_29 ?_
  refine lv_topi (fun x5_30 ex5_30 => ?_)
  replace hf := lett_s ex5_30 hf
  refine lv_istore (lv' := [(5, .int (x5_30)), (4, .int (r8)), (0, .ref (a 0)), (1, .ref (d 0)), (2, .int (x2)), (3, .int (x3))]) hx hb dX1_hadInMonth_30 hl (by decide) rfl (fun ls hl => ?_)
  refine lv_iconst (v := 0) hx hb dX1_hadInMonth_32 (by decide) ?_
  refine lv_topi (fun x6_33 ex6_33 => ?_)
  replace hf := lett_s ex6_33 hf
  refine lv_istore (lv' := [(6, .int (x6_33)), (5, .int (x5_30)), (4, .int (r8)), (0, .ref (a 0)), (1, .ref (d 0)), (2, .int (x2)), (3, .int (x3))]) hx hb dX1_hadInMonth_33 hl (by decide) rfl (fun ls hl => ?_)
  refine lv_iconst (v := 0) hx hb dX1_hadInMonth_35 (by decide) ?_
  refine lv_topi (fun x7_36 ex7_36 => ?_)
  replace hf := lett_s ex7_36 hf
  refine lv_istore (lv' := [(7, .int (x7_36)), (6, .int (x6_33)), (5, .int (x5_30)), (4, .int (r8)), (0, .ref (a 0)), (1, .ref (d 0)), (2, .int (x2)), (3, .int (x3))]) hx hb dX1_hadInMonth_36 hl (by decide) rfl (fun ls hl => ?_)
  exact w_X1_hadInMonth_38 C G hA hR x3 x5_30 r18 T FU x6_33 x7_36 _ _ _ (lv_sub hl [4, 7, 2, 1, 0] rfl) hP hD hS hf

theorem in_X1_drawMonths_X1 : ∀ w ∈ wsX10, w ∈ wsX1_drawMonths := by decide +kernel
theorem in_X1_drawMonths_X5 : ∀ w ∈ wsX50, w ∈ wsX1_drawMonths := by decide +kernel
def f_X1_drawMonths_81 (x3 : Int32) (x4 : Int32) (x5 : Int64) (x7 : Int32) (x8 : Int32) (x9 : Int32) (N : Tw) (T : Tw) (K28 : Int64 → Int32 → Int32 → Option Tw) : Option Tw :=
  lett (x9 + 1) fun x9_81 =>
  K28 x5 x8 x9_81
set_option maxHeartbeats 4000000 in
set_option maxRecDepth 100000 in
theorem b_X1_drawMonths_81 {p : Program} {l : Launch} {e : Env} {s : State} {m : MethodId} {args : Array Value} {below : List Frame} {meth : Method} {c : Code} {Q : State → Prop} {dC : Nat → ClassId} {dI : Nat → Nat → Nat} {cs : Nat → ClassId} {A : Nat → Prop} {a : Nat → Nat} {b : Nat → Nat} {d : Nat → Nat} {res : Tw} (C : CallFix p m c cX1_drawMonths 10 s args wsX1_drawMonths RX1) (G : GE dC dI cs s) (hA : ∀ q : Nat, s.heap.size ≤ q → A q) {T : Tw} (hR : RTr p l e ({ frames := 4, cells := 0, slots := 0, locals := 88 }) s m args below meth c cX1_drawMonths Q (dC, dI) A (fun u : Tw => (wF (a 0) (b 0) ++ wT cs b u ++ wT cs d T)) (b 0) res) (x3 : Int32) (x4 : Int32) (x5 : Int64) (x7 : Int32) (x8 : Int32) (x9 : Int32) (N : Tw) (_ : Tw) {K28 : Int64 → Int32 → Int32 → Option Tw} (hK28 : ∀ (x5 : Int64) (x8 : Int32) (x9 : Int32) (H : Heap) (locs : List Loc) (ls : Array Slot), lv_has ls 10 [(0, .ref (a 0)), (3, .int (x3)), (4, .int (x4)), (5, .long (x5)), (7, .int (x7)), (8, .int (x8)), (9, .int (x9))] → va_P (dC, dI) vwCl (wF (a 0) (b 0) ++ wT cs b N ++ wT cs d T) H → va_D A (wF (a 0) (b 0) ++ wT cs b N ++ wT cs d T) → va_S A s.heap H locs → K28 x5 x8 x9 = some res → W p l e ({ frames := 4, cells := 0, slots := 0, locals := 88 }) s m args below meth c H locs 0 0 Q (F0 m 28 ls [])) (H : Heap) (locs : List Loc) (ls : Array Slot) (hl : lv_has ls 10 [(0, .ref (a 0)), (3, .int (x3)), (4, .int (x4)), (5, .long (x5)), (7, .int (x7)), (8, .int (x8)), (9, .int (x9))]) (hP : va_P (dC, dI) vwCl (wF (a 0) (b 0) ++ wT cs b N ++ wT cs d T) H) (hD : va_D A (wF (a 0) (b 0) ++ wT cs b N ++ wT cs d T)) (hS : va_S A s.heap H locs) (hf : f_X1_drawMonths_81 x3 x4 x5 x7 x8 x9 N T K28 = some res) : W p l e ({ frames := 4, cells := 0, slots := 0, locals := 88 }) s m args below meth c H locs 0 0 Q (F0 m 81 ls []) := by
  obtain ⟨hx, hb, hml, hown, hts⟩ := id C
  obtain ⟨hK, hN⟩ := id G
  unfold f_X1_drawMonths_81 at hf
  obtain ⟨x9_81, ex9_81⟩ : ∃ y : Int32, y = (x9 + 1) := ⟨_, rfl⟩
  replace hf := lett_s ex9_81 hf
  refine lv_iinc (v := x9_81) (lv' := [(9, .int (x9_81)), (0, .ref (a 0)), (3, .int (x3)), (4, .int (x4)), (5, .long (x5)), (7, .int (x7)), (8, .int (x8))]) hx hb dX1_drawMonths_81 hl (k := 6) rfl (by rw [ex9_81]; rfl) (by decide) rfl (fun ls hl => ?_)
  refine lv_goto (tgt := 28) hx hb dX1_drawMonths_84 (by decide) ?_
  exact hK28 x5 x8 x9_81 _ _ _ (lv_sub hl [1, 2, 3, 4, 5, 6, 0] rfl) hP hD hS hf
def f_X1_drawMonths_28 (x3 : Int32) (x4 : Int32) (x5 : Int64) (x7 : Int32) (x8 : Int32) (x9 : Int32) (N : Tw) (T : Tw) (K28 : Int64 → Int32 → Int32 → Option Tw) (K87 : Int64 → Int32 → Option Tw) : Option Tw :=
  if (N.1 4) ≤ x9 then (
    K87 x5 x8
  ) else (
    lett (((x5 * (1103515245 : Int64)) + (12345 : Int64)) - ((x5 * (1103515245 : Int64)) + (12345 : Int64)) / (2147483648 : Int64) * (2147483648 : Int64)) fun x5_54 =>
    if 0 ≤ (lg_cmp ((x5_54 / (65536 : Int64)) - (x5_54 / (65536 : Int64)) / (100 : Int64) * (100 : Int64)) (x3).toInt64) then (
      f_X1_drawMonths_81 x3 x4 x5_54 x7 x8 x9 N T K28
    ) else (
      lett (x8 ||| ((1 : Int32) <<< (x9 &&& 31))) fun x8_79 =>
      f_X1_drawMonths_81 x3 x4 x5_54 x7 x8_79 x9 N T K28
    )
  )
set_option maxHeartbeats 4000000 in
set_option maxRecDepth 100000 in
theorem b_X1_drawMonths_28 {p : Program} {l : Launch} {e : Env} {s : State} {m : MethodId} {args : Array Value} {below : List Frame} {meth : Method} {c : Code} {Q : State → Prop} {dC : Nat → ClassId} {dI : Nat → Nat → Nat} {cs : Nat → ClassId} {A : Nat → Prop} {a : Nat → Nat} {b : Nat → Nat} {d : Nat → Nat} {res : Tw} (C : CallFix p m c cX1_drawMonths 10 s args wsX1_drawMonths RX1) (G : GE dC dI cs s) (hA : ∀ q : Nat, s.heap.size ≤ q → A q) {T : Tw} (hR : RTr p l e ({ frames := 4, cells := 0, slots := 0, locals := 88 }) s m args below meth c cX1_drawMonths Q (dC, dI) A (fun u : Tw => (wF (a 0) (b 0) ++ wT cs b u ++ wT cs d T)) (b 0) res) (x3 : Int32) (x4 : Int32) (x5 : Int64) (x7 : Int32) (x8 : Int32) (x9 : Int32) (N : Tw) (_ : Tw) {K28 : Int64 → Int32 → Int32 → Option Tw} {K87 : Int64 → Int32 → Option Tw} (hK28 : ∀ (x5 : Int64) (x8 : Int32) (x9 : Int32) (H : Heap) (locs : List Loc) (ls : Array Slot), lv_has ls 10 [(0, .ref (a 0)), (3, .int (x3)), (4, .int (x4)), (5, .long (x5)), (7, .int (x7)), (8, .int (x8)), (9, .int (x9))] → va_P (dC, dI) vwCl (wF (a 0) (b 0) ++ wT cs b N ++ wT cs d T) H → va_D A (wF (a 0) (b 0) ++ wT cs b N ++ wT cs d T) → va_S A s.heap H locs → K28 x5 x8 x9 = some res → W p l e ({ frames := 4, cells := 0, slots := 0, locals := 88 }) s m args below meth c H locs 0 0 Q (F0 m 28 ls [])) (hK87 : ∀ (x5 : Int64) (x8 : Int32) (H : Heap) (locs : List Loc) (ls : Array Slot), lv_has ls 10 [(0, .ref (a 0)), (3, .int (x3)), (4, .int (x4)), (5, .long (x5)), (7, .int (x7)), (8, .int (x8))] → va_P (dC, dI) vwCl (wF (a 0) (b 0) ++ wT cs b N ++ wT cs d T) H → va_D A (wF (a 0) (b 0) ++ wT cs b N ++ wT cs d T) → va_S A s.heap H locs → K87 x5 x8 = some res → W p l e ({ frames := 4, cells := 0, slots := 0, locals := 88 }) s m args below meth c H locs 0 0 Q (F0 m 87 ls [])) (H : Heap) (locs : List Loc) (ls : Array Slot) (hl : lv_has ls 10 [(0, .ref (a 0)), (3, .int (x3)), (4, .int (x4)), (5, .long (x5)), (7, .int (x7)), (8, .int (x8)), (9, .int (x9))]) (hP : va_P (dC, dI) vwCl (wF (a 0) (b 0) ++ wT cs b N ++ wT cs d T) H) (hD : va_D A (wF (a 0) (b 0) ++ wT cs b N ++ wT cs d T)) (hS : va_S A s.heap H locs) (hf : f_X1_drawMonths_28 x3 x4 x5 x7 x8 x9 N T K28 K87 = some res) : W p l e ({ frames := 4, cells := 0, slots := 0, locals := 88 }) s m args below meth c H locs 0 0 Q (F0 m 28 ls []) := by
  obtain ⟨hx, hb, hml, hown, hts⟩ := id C
  obtain ⟨hK, hN⟩ := id G
  unfold f_X1_drawMonths_28 at hf
  refine lv_iload hx hb dX1_drawMonths_28 (lv_at hl 6 rfl) ?_
  refine lv_aload_n hx hb dX1_drawMonths_30 rfl (lv_at hl 0 rfl) ?_
  refine va_get (D := (dC, dI)) (ci := 1) (v := .ref (b 0)) (C := RX1) (T := TX1) (N := 1) hx hb hts in_X1_drawMonths_X1 hown hK hP 0 rfl rfl 0 (by decide) (hts (.fieldLink RX1 12 "BackLoans$Foresight" "trial" "LBackLoans$Town;") (by decide +kernel)) (fun _ h9 => h9) rfl dX1_drawMonths_31 ?_
  refine va_get (D := (dC, dI)) (ci := 5) (v := .int ((N.1 4))) (C := RX5) (T := TX5) (N := 17) hx hb hts in_X1_drawMonths_X5 hown hK hP 1 rfl rfl 4 (by decide) (hts (.fieldLink RX1 88 "BackLoans$Town" "people" "I") (by decide +kernel)) (fun _ h9 => h9) rfl dX1_drawMonths_34 ?_
  refine lv_icmp_ge (tgt := 87) hx hb dX1_drawMonths_37 (by decide) (fun c1 => ?_) (fun c1 => ?_)
  · replace hf := it_t c1 hf
    exact hK87 x5 x8 _ _ _ (lv_sub hl [0, 1, 2, 3, 4, 5] rfl) hP hD hS hf
  · replace hf := it_f c1 hf
    refine lv_lload hx hb dX1_drawMonths_40 (lv_at hl 3 rfl) ?_
    refine lv_ldc2 (v := 1103515245) hx hb hown (hts (.constantLong RX1 91 (1103515245)) (by decide +kernel)) dX1_drawMonths_42 ?_
    refine lv_lmul hx hb dX1_drawMonths_45 ?_
    refine lv_ldc2 (v := 12345) hx hb hown (hts (.constantLong RX1 93 (12345)) (by decide +kernel)) dX1_drawMonths_46 ?_
    refine lv_ladd hx hb dX1_drawMonths_49 ?_
    refine lv_ldc2 (v := 2147483648) hx hb hown (hts (.constantLong RX1 95 (2147483648)) (by decide +kernel)) dX1_drawMonths_50 ?_
    refine lv_lrem hx hb dX1_drawMonths_53 (by decide) ?_
    refine lv_topl (fun x5_54 ex5_54 => ?_)
    replace hf := lett_s ex5_54 hf
    refine lv_lstore (lv' := [(5, .long (x5_54)), (0, .ref (a 0)), (3, .int (x3)), (4, .int (x4)), (7, .int (x7)), (8, .int (x8)), (9, .int (x9))]) hx hb dX1_drawMonths_54 hl (by decide) rfl (fun ls hl => ?_)
    refine lv_lload hx hb dX1_drawMonths_56 (lv_at hl 0 rfl) ?_
    refine lv_ldc2 (v := 65536) hx hb hown (hts (.constantLong RX1 97 (65536)) (by decide +kernel)) dX1_drawMonths_58 ?_
    refine lv_ldiv hx hb dX1_drawMonths_61 (by decide) ?_
    refine lv_ldc2 (v := 100) hx hb hown (hts (.constantLong RX1 99 (100)) (by decide +kernel)) dX1_drawMonths_62 ?_
    refine lv_lrem hx hb dX1_drawMonths_65 (by decide) ?_
    refine lv_iload_n hx hb dX1_drawMonths_66 rfl (lv_at hl 2 rfl) ?_
    refine lv_i2l hx hb dX1_drawMonths_67 rfl ?_
    refine W.lcmp hx hb dX1_drawMonths_68 ?_
    refine lv_if_ge (tgt := 81) hx hb dX1_drawMonths_69 (by decide) (fun c2 => ?_) (fun c2 => ?_)
    · replace hf := it_t c2 hf
      exact b_X1_drawMonths_81 C G hA hR x3 x4 x5_54 x7 x8 x9 N T hK28 _ _ _ (lv_sub hl [1, 2, 3, 0, 4, 5, 6] rfl) hP hD hS hf
    · replace hf := it_f c2 hf
      refine lv_iload hx hb dX1_drawMonths_72 (lv_at hl 5 rfl) ?_
      refine lv_iconst (v := 1) hx hb dX1_drawMonths_74 (by decide) ?_
      refine lv_iload hx hb dX1_drawMonths_75 (lv_at hl 6 rfl) ?_
      refine lv_ishl hx hb dX1_drawMonths_77 ?_
      refine lv_ior hx hb dX1_drawMonths_78 ?_
      refine lv_topi (fun x8_79 ex8_79 => ?_)
      replace hf := lett_s ex8_79 hf
      refine lv_istore (lv' := [(8, .int (x8_79)), (5, .long (x5_54)), (0, .ref (a 0)), (3, .int (x3)), (4, .int (x4)), (7, .int (x7)), (9, .int (x9))]) hx hb dX1_drawMonths_79 hl (by decide) rfl (fun ls hl => ?_)
      exact b_X1_drawMonths_81 C G hA hR x3 x4 x5_54 x7 x8_79 x9 N T hK28 _ _ _ (lv_sub hl [2, 3, 4, 1, 5, 0, 6] rfl) hP hD hS hf
def l_X1_drawMonths_28 (x3 : Int32) (x4 : Int32) (x7 : Int32) (N : Tw) (T : Tw) (K87 : Int64 → Int32 → Option Tw) (n : Nat) (x5 : Int64) (x8 : Int32) (x9 : Int32) : Option Tw := itr (fun (k : Int64 × Int32 × Int32 → Option Tw) (z : Int64 × Int32 × Int32) => f_X1_drawMonths_28 x3 x4 z.1 x7 z.2.1 z.2.2 N T (fun x5 x8 x9 => k (x5, x8, x9)) K87) n (x5, x8, x9)
set_option maxHeartbeats 4000000 in
set_option maxRecDepth 100000 in
theorem w_X1_drawMonths_28 {p : Program} {l : Launch} {e : Env} {s : State} {m : MethodId} {args : Array Value} {below : List Frame} {meth : Method} {c : Code} {Q : State → Prop} {dC : Nat → ClassId} {dI : Nat → Nat → Nat} {cs : Nat → ClassId} {A : Nat → Prop} {a : Nat → Nat} {b : Nat → Nat} {d : Nat → Nat} {res : Tw} (C : CallFix p m c cX1_drawMonths 10 s args wsX1_drawMonths RX1) (G : GE dC dI cs s) (hA : ∀ q : Nat, s.heap.size ≤ q → A q) {T : Tw} (hR : RTr p l e ({ frames := 4, cells := 0, slots := 0, locals := 88 }) s m args below meth c cX1_drawMonths Q (dC, dI) A (fun u : Tw => (wF (a 0) (b 0) ++ wT cs b u ++ wT cs d T)) (b 0) res) (x3 : Int32) (x4 : Int32) (x7 : Int32) (N : Tw) (_ : Tw) {K87 : Int64 → Int32 → Option Tw} (hK87 : ∀ (x5 : Int64) (x8 : Int32) (H : Heap) (locs : List Loc) (ls : Array Slot), lv_has ls 10 [(0, .ref (a 0)), (3, .int (x3)), (4, .int (x4)), (5, .long (x5)), (7, .int (x7)), (8, .int (x8))] → va_P (dC, dI) vwCl (wF (a 0) (b 0) ++ wT cs b N ++ wT cs d T) H → va_D A (wF (a 0) (b 0) ++ wT cs b N ++ wT cs d T) → va_S A s.heap H locs → K87 x5 x8 = some res → W p l e ({ frames := 4, cells := 0, slots := 0, locals := 88 }) s m args below meth c H locs 0 0 Q (F0 m 87 ls [])) : ∀ (n : Nat) (x5 : Int64) (x8 : Int32) (x9 : Int32) (H : Heap) (locs : List Loc) (ls : Array Slot), lv_has ls 10 [(0, .ref (a 0)), (3, .int (x3)), (4, .int (x4)), (5, .long (x5)), (7, .int (x7)), (8, .int (x8)), (9, .int (x9))] → va_P (dC, dI) vwCl (wF (a 0) (b 0) ++ wT cs b N ++ wT cs d T) H → va_D A (wF (a 0) (b 0) ++ wT cs b N ++ wT cs d T) → va_S A s.heap H locs → l_X1_drawMonths_28 x3 x4 x7 N T K87 n x5 x8 x9 = some res → W p l e ({ frames := 4, cells := 0, slots := 0, locals := 88 }) s m args below meth c H locs 0 0 Q (F0 m 28 ls []) := by
  intro n
  induction n with
  | zero => intro x5 x8 x9 H locs ls hl hP hD hS hf; exact absurd hf (by simp [l_X1_drawMonths_28, itr])
  | succ n ih => intro x5 x8 x9 H locs ls hl hP hD hS hf; exact b_X1_drawMonths_28 C G hA hR x3 x4 x5 x7 x8 x9 N T (K28 := fun x5 x8 x9 => l_X1_drawMonths_28 x3 x4 x7 N T K87 n x5 x8 x9) (fun x5 x8 x9 H locs ls hl hP hD hS hf => ih x5 x8 x9 H locs ls hl hP hD hS hf) hK87 H locs ls hl hP hD hS hf
def f_X1_drawMonths_87 (x3 : Int32) (x4 : Int32) (x5 : Int64) (x7 : Int32) (x8 : Int32) (N : Tw) (T : Tw) (K15 : Int64 → Int32 → Tw → Option Tw) : Option Tw :=
  bn (f_X5_liveMonth x8 N) fun r93 =>
  lett (x7 + 1) fun x7_96 =>
  K15 x5 x7_96 r93
set_option maxHeartbeats 4000000 in
set_option maxRecDepth 100000 in
theorem b_X1_drawMonths_87 {p : Program} {l : Launch} {e : Env} {s : State} {m : MethodId} {args : Array Value} {below : List Frame} {meth : Method} {c : Code} {Q : State → Prop} {dC : Nat → ClassId} {dI : Nat → Nat → Nat} {cs : Nat → ClassId} {A : Nat → Prop} {a : Nat → Nat} {b : Nat → Nat} {d : Nat → Nat} {res : Tw} (C : CallFix p m c cX1_drawMonths 10 s args wsX1_drawMonths RX1) (G : GE dC dI cs s) (hA : ∀ q : Nat, s.heap.size ≤ q → A q) {T : Tw} (hR : RTr p l e ({ frames := 4, cells := 0, slots := 0, locals := 88 }) s m args below meth c cX1_drawMonths Q (dC, dI) A (fun u : Tw => (wF (a 0) (b 0) ++ wT cs b u ++ wT cs d T)) (b 0) res) (x3 : Int32) (x4 : Int32) (x5 : Int64) (x7 : Int32) (x8 : Int32) (N : Tw) (_ : Tw) {K15 : Int64 → Int32 → Tw → Option Tw} (hK15 : ∀ (x5 : Int64) (x7 : Int32) (N : Tw) (H : Heap) (locs : List Loc) (ls : Array Slot), lv_has ls 10 [(0, .ref (a 0)), (3, .int (x3)), (4, .int (x4)), (5, .long (x5)), (7, .int (x7))] → va_P (dC, dI) vwCl (wF (a 0) (b 0) ++ wT cs b N ++ wT cs d T) H → va_D A (wF (a 0) (b 0) ++ wT cs b N ++ wT cs d T) → va_S A s.heap H locs → K15 x5 x7 N = some res → W p l e ({ frames := 4, cells := 0, slots := 0, locals := 88 }) s m args below meth c H locs 0 0 Q (F0 m 15 ls [])) (H : Heap) (locs : List Loc) (ls : Array Slot) (hl : lv_has ls 10 [(0, .ref (a 0)), (3, .int (x3)), (4, .int (x4)), (5, .long (x5)), (7, .int (x7)), (8, .int (x8))]) (hP : va_P (dC, dI) vwCl (wF (a 0) (b 0) ++ wT cs b N ++ wT cs d T) H) (hD : va_D A (wF (a 0) (b 0) ++ wT cs b N ++ wT cs d T)) (hS : va_S A s.heap H locs) (hf : f_X1_drawMonths_87 x3 x4 x5 x7 x8 N T K15 = some res) : W p l e ({ frames := 4, cells := 0, slots := 0, locals := 88 }) s m args below meth c H locs 0 0 Q (F0 m 87 ls []) := by
  obtain ⟨hx, hb, hml, hown, hts⟩ := id C
  obtain ⟨hK, hN⟩ := id G
  unfold f_X1_drawMonths_87 at hf
  refine lv_aload_n hx hb dX1_drawMonths_87 rfl (lv_at hl 0 rfl) ?_
  refine va_get (D := (dC, dI)) (ci := 1) (v := .ref (b 0)) (C := RX1) (T := TX1) (N := 1) hx hb hts in_X1_drawMonths_X1 hown hK hP 0 rfl rfl 0 (by decide) (hts (.fieldLink RX1 12 "BackLoans$Foresight" "trial" "LBackLoans$Town;") (by decide +kernel)) (fun _ h9 => h9) rfl dX1_drawMonths_88 ?_
  refine lv_iload hx hb dX1_drawMonths_91 (lv_at hl 5 rfl) ?_
  obtain ⟨r93, hr93, hf⟩ := bn_e hf
  have hPc := hP.sub (ws' := (wT cs b N)) [1, 2, 3, 4, 5, 6, 7, 8, 9, 10, 11] rfl
  have hDc := hD.sub (ws' := (wT cs b N)) [1, 2, 3, 4, 5, 6, 7, 8, 9, 10, 11] (by decide) rfl
  have hFc := va_free (wc := (wT cs b N)) hD hS hA [1, 2, 3, 4, 5, 6, 7, 8, 9, 10, 11] rfl
  refine va_callv (va_runV (As := [.int (x8)]) (rest := []) C (c_X5_liveMonth l dC dI cs b H.size N x8 r93 hr93) (cwV 1 hts gX1_drawMonths_X5_liveMonth rfl rfl rfl (by decide +kernel) ⟨Nat.le_of_ble_eq_true rfl, Nat.le_of_ble_eq_true rfl⟩) ⟨(fun a U g mk q => ⟨q.1, q.2.1, q.2.2.1, GE.calling q.2.2.2.1, q.2.2.2.2⟩), va_recv hK hPc (ci := 5) (q0 := 0) rfl rfl, (fun U hU hW => ⟨rfl, by rw [hU], by rw [hU]; exact hPc, GE.warm hW G, hDc.weaken (fun _ _ _ _ => trivial)⟩)⟩ rfl rfl hl.1 rfl (lv_room (Nat.le_of_ble_eq_true rfl)) dX1_drawMonths_93 ⟨Nat.le_of_ble_eq_true rfl, Nat.le_of_ble_eq_true rfl⟩) hS (fun q _ h => hFc q h) hFc (fun u t H1 locs ht hvm hw hB hz1 hk1 hS => ?_)
  obtain rfl := hw.symm
  obtain ⟨hP1, hD1⟩ := hB
  rw [ht] at hP1
  obtain ⟨hP, hD⟩ := va_join (wr := [0, 12, 13, 14, 15, 16, 17, 18, 19, 20, 21, 22].filterMap (fun i => ((wF (a 0) (b 0) ++ wT cs b N ++ wT cs d T))[i]?)) (w1 := (wT cs b r93)) hP hD [1, 2, 3, 4, 5, 6, 7, 8, 9, 10, 11] [0, 12, 13, 14, 15, 16, 17, 18, 19, 20, 21, 22] rfl rfl (by decide) (by decide) hk1 hFc hP1 hD1
  generalize H1 = H at hP hS ⊢
  have hP := hP.sub (ws' := (wF (a 0) (b 0) ++ wT cs b r93 ++ wT cs d T)) [0, 12, 13, 14, 15, 16, 17, 18, 19, 20, 21, 22, 1, 2, 3, 4, 5, 6, 7, 8, 9, 10, 11] rfl
  have hD := hD.sub (ws' := (wF (a 0) (b 0) ++ wT cs b r93 ++ wT cs d T)) [0, 12, 13, 14, 15, 16, 17, 18, 19, 20, 21, 22, 1, 2, 3, 4, 5, 6, 7, 8, 9, 10, 11] (by decide) rfl
  obtain ⟨x7_96, ex7_96⟩ : ∃ y : Int32, y = (x7 + 1) := ⟨_, rfl⟩
  replace hf := lett_s ex7_96 hf
  refine lv_iinc (v := x7_96) (lv' := [(7, .int (x7_96)), (0, .ref (a 0)), (3, .int (x3)), (4, .int (x4)), (5, .long (x5)), (8, .int (x8))]) hx hb dX1_drawMonths_96 hl (k := 4) rfl (by rw [ex7_96]; rfl) (by decide) rfl (fun ls hl => ?_)
  refine lv_goto (tgt := 15) hx hb dX1_drawMonths_99 (by decide) ?_
  exact hK15 x5 x7_96 r93 _ _ _ (lv_sub hl [1, 2, 3, 4, 0] rfl) hP hD hS hf
def f_X1_drawMonths_15 (x3 : Int32) (x4 : Int32) (x5 : Int64) (x7 : Int32) (N : Tw) (T : Tw) (K15 : Int64 → Int32 → Tw → Option Tw) (K102 : Tw → Option Tw) : Option Tw :=
  if x4 ≤ x7 then (
    K102 N
  ) else (
    lett (0 : Int32) fun x8_23 =>
    lett (0 : Int32) fun x9_26 =>
    l_X1_drawMonths_28 x3 x4 x7 N T (fun x5 x8 => f_X1_drawMonths_87 x3 x4 x5 x7 x8 N T K15) FU x5 x8_23 x9_26
  )
set_option maxHeartbeats 4000000 in
set_option maxRecDepth 100000 in
theorem b_X1_drawMonths_15 {p : Program} {l : Launch} {e : Env} {s : State} {m : MethodId} {args : Array Value} {below : List Frame} {meth : Method} {c : Code} {Q : State → Prop} {dC : Nat → ClassId} {dI : Nat → Nat → Nat} {cs : Nat → ClassId} {A : Nat → Prop} {a : Nat → Nat} {b : Nat → Nat} {d : Nat → Nat} {res : Tw} (C : CallFix p m c cX1_drawMonths 10 s args wsX1_drawMonths RX1) (G : GE dC dI cs s) (hA : ∀ q : Nat, s.heap.size ≤ q → A q) {T : Tw} (hR : RTr p l e ({ frames := 4, cells := 0, slots := 0, locals := 88 }) s m args below meth c cX1_drawMonths Q (dC, dI) A (fun u : Tw => (wF (a 0) (b 0) ++ wT cs b u ++ wT cs d T)) (b 0) res) (x3 : Int32) (x4 : Int32) (x5 : Int64) (x7 : Int32) (N : Tw) (_ : Tw) {K15 : Int64 → Int32 → Tw → Option Tw} {K102 : Tw → Option Tw} (hK15 : ∀ (x5 : Int64) (x7 : Int32) (N : Tw) (H : Heap) (locs : List Loc) (ls : Array Slot), lv_has ls 10 [(0, .ref (a 0)), (3, .int (x3)), (4, .int (x4)), (5, .long (x5)), (7, .int (x7))] → va_P (dC, dI) vwCl (wF (a 0) (b 0) ++ wT cs b N ++ wT cs d T) H → va_D A (wF (a 0) (b 0) ++ wT cs b N ++ wT cs d T) → va_S A s.heap H locs → K15 x5 x7 N = some res → W p l e ({ frames := 4, cells := 0, slots := 0, locals := 88 }) s m args below meth c H locs 0 0 Q (F0 m 15 ls [])) (hK102 : ∀ (N : Tw) (H : Heap) (locs : List Loc) (ls : Array Slot), lv_has ls 10 [(0, .ref (a 0))] → va_P (dC, dI) vwCl (wF (a 0) (b 0) ++ wT cs b N ++ wT cs d T) H → va_D A (wF (a 0) (b 0) ++ wT cs b N ++ wT cs d T) → va_S A s.heap H locs → K102 N = some res → W p l e ({ frames := 4, cells := 0, slots := 0, locals := 88 }) s m args below meth c H locs 0 0 Q (F0 m 102 ls [])) (H : Heap) (locs : List Loc) (ls : Array Slot) (hl : lv_has ls 10 [(0, .ref (a 0)), (3, .int (x3)), (4, .int (x4)), (5, .long (x5)), (7, .int (x7))]) (hP : va_P (dC, dI) vwCl (wF (a 0) (b 0) ++ wT cs b N ++ wT cs d T) H) (hD : va_D A (wF (a 0) (b 0) ++ wT cs b N ++ wT cs d T)) (hS : va_S A s.heap H locs) (hf : f_X1_drawMonths_15 x3 x4 x5 x7 N T K15 K102 = some res) : W p l e ({ frames := 4, cells := 0, slots := 0, locals := 88 }) s m args below meth c H locs 0 0 Q (F0 m 15 ls []) := by
  obtain ⟨hx, hb, hml, hown, hts⟩ := id C
  obtain ⟨hK, hN⟩ := id G
  unfold f_X1_drawMonths_15 at hf
  refine lv_iload hx hb dX1_drawMonths_15 (lv_at hl 4 rfl) ?_
  refine lv_iload hx hb dX1_drawMonths_17 (lv_at hl 2 rfl) ?_
  refine lv_icmp_ge (tgt := 102) hx hb dX1_drawMonths_19 (by decide) (fun c1 => ?_) (fun c1 => ?_)
  · replace hf := it_t c1 hf
    exact hK102 N _ _ _ (lv_sub hl [0] rfl) hP hD hS hf
  · replace hf := it_f c1 hf
    refine lv_iconst (v := 0) hx hb dX1_drawMonths_22 (by decide) ?_
    refine lv_topi (fun x8_23 ex8_23 => ?_)
    replace hf := lett_s ex8_23 hf
    refine lv_istore (lv' := [(8, .int (x8_23)), (0, .ref (a 0)), (3, .int (x3)), (4, .int (x4)), (5, .long (x5)), (7, .int (x7))]) hx hb dX1_drawMonths_23 hl (by decide) rfl (fun ls hl => ?_)
    refine lv_iconst (v := 0) hx hb dX1_drawMonths_25 (by decide) ?_
    refine lv_topi (fun x9_26 ex9_26 => ?_)
    replace hf := lett_s ex9_26 hf
    refine lv_istore (lv' := [(9, .int (x9_26)), (8, .int (x8_23)), (0, .ref (a 0)), (3, .int (x3)), (4, .int (x4)), (5, .long (x5)), (7, .int (x7))]) hx hb dX1_drawMonths_26 hl (by decide) rfl (fun ls hl => ?_)
    exact w_X1_drawMonths_28 C G hA hR x3 x4 x7 N T (fun x5 x8 H locs ls hl hP hD hS hf => b_X1_drawMonths_87 C G hA hR x3 x4 x5 x7 x8 N T hK15 _ _ _ hl hP hD hS hf) FU x5 x8_23 x9_26 _ _ _ (lv_sub hl [2, 3, 4, 5, 6, 1, 0] rfl) hP hD hS hf
def l_X1_drawMonths_15 (x3 : Int32) (x4 : Int32) (T : Tw) (K102 : Tw → Option Tw) (n : Nat) (x5 : Int64) (x7 : Int32) (N : Tw) : Option Tw := itr (fun (k : Int64 × Int32 × Tw → Option Tw) (z : Int64 × Int32 × Tw) => f_X1_drawMonths_15 x3 x4 z.1 z.2.1 z.2.2 T (fun x5 x7 N => k (x5, x7, N)) K102) n (x5, x7, N)
set_option maxHeartbeats 4000000 in
set_option maxRecDepth 100000 in
theorem w_X1_drawMonths_15 {p : Program} {l : Launch} {e : Env} {s : State} {m : MethodId} {args : Array Value} {below : List Frame} {meth : Method} {c : Code} {Q : State → Prop} {dC : Nat → ClassId} {dI : Nat → Nat → Nat} {cs : Nat → ClassId} {A : Nat → Prop} {a : Nat → Nat} {b : Nat → Nat} {d : Nat → Nat} {res : Tw} (C : CallFix p m c cX1_drawMonths 10 s args wsX1_drawMonths RX1) (G : GE dC dI cs s) (hA : ∀ q : Nat, s.heap.size ≤ q → A q) {T : Tw} (hR : RTr p l e ({ frames := 4, cells := 0, slots := 0, locals := 88 }) s m args below meth c cX1_drawMonths Q (dC, dI) A (fun u : Tw => (wF (a 0) (b 0) ++ wT cs b u ++ wT cs d T)) (b 0) res) (x3 : Int32) (x4 : Int32) (_ : Tw) {K102 : Tw → Option Tw} (hK102 : ∀ (N : Tw) (H : Heap) (locs : List Loc) (ls : Array Slot), lv_has ls 10 [(0, .ref (a 0))] → va_P (dC, dI) vwCl (wF (a 0) (b 0) ++ wT cs b N ++ wT cs d T) H → va_D A (wF (a 0) (b 0) ++ wT cs b N ++ wT cs d T) → va_S A s.heap H locs → K102 N = some res → W p l e ({ frames := 4, cells := 0, slots := 0, locals := 88 }) s m args below meth c H locs 0 0 Q (F0 m 102 ls [])) : ∀ (n : Nat) (x5 : Int64) (x7 : Int32) (N : Tw) (H : Heap) (locs : List Loc) (ls : Array Slot), lv_has ls 10 [(0, .ref (a 0)), (3, .int (x3)), (4, .int (x4)), (5, .long (x5)), (7, .int (x7))] → va_P (dC, dI) vwCl (wF (a 0) (b 0) ++ wT cs b N ++ wT cs d T) H → va_D A (wF (a 0) (b 0) ++ wT cs b N ++ wT cs d T) → va_S A s.heap H locs → l_X1_drawMonths_15 x3 x4 T K102 n x5 x7 N = some res → W p l e ({ frames := 4, cells := 0, slots := 0, locals := 88 }) s m args below meth c H locs 0 0 Q (F0 m 15 ls []) := by
  intro n
  induction n with
  | zero => intro x5 x7 N H locs ls hl hP hD hS hf; exact absurd hf (by simp [l_X1_drawMonths_15, itr])
  | succ n ih => intro x5 x7 N H locs ls hl hP hD hS hf; exact b_X1_drawMonths_15 C G hA hR x3 x4 x5 x7 N T (K15 := fun x5 x7 N => l_X1_drawMonths_15 x3 x4 T K102 n x5 x7 N) (fun x5 x7 N H locs ls hl hP hD hS hf => ih x5 x7 N H locs ls hl hP hD hS hf) hK102 H locs ls hl hP hD hS hf
def f_X1_drawMonths_102 (N : Tw) (T : Tw)  : Option Tw :=
  some N
set_option maxHeartbeats 4000000 in
set_option maxRecDepth 100000 in
theorem b_X1_drawMonths_102 {p : Program} {l : Launch} {e : Env} {s : State} {m : MethodId} {args : Array Value} {below : List Frame} {meth : Method} {c : Code} {Q : State → Prop} {dC : Nat → ClassId} {dI : Nat → Nat → Nat} {cs : Nat → ClassId} {A : Nat → Prop} {a : Nat → Nat} {b : Nat → Nat} {d : Nat → Nat} {res : Tw} (C : CallFix p m c cX1_drawMonths 10 s args wsX1_drawMonths RX1) (G : GE dC dI cs s) (hA : ∀ q : Nat, s.heap.size ≤ q → A q) {T : Tw} (hR : RTr p l e ({ frames := 4, cells := 0, slots := 0, locals := 88 }) s m args below meth c cX1_drawMonths Q (dC, dI) A (fun u : Tw => (wF (a 0) (b 0) ++ wT cs b u ++ wT cs d T)) (b 0) res) (N : Tw) (_ : Tw)   (H : Heap) (locs : List Loc) (ls : Array Slot) (hl : lv_has ls 10 [(0, .ref (a 0))]) (hP : va_P (dC, dI) vwCl (wF (a 0) (b 0) ++ wT cs b N ++ wT cs d T) H) (hD : va_D A (wF (a 0) (b 0) ++ wT cs b N ++ wT cs d T)) (hS : va_S A s.heap H locs) (hf : f_X1_drawMonths_102 N T = some res) : W p l e ({ frames := 4, cells := 0, slots := 0, locals := 88 }) s m args below meth c H locs 0 0 Q (F0 m 102 ls []) := by
  obtain ⟨hx, hb, hml, hown, hts⟩ := id C
  obtain ⟨hK, hN⟩ := id G
  unfold f_X1_drawMonths_102 at hf
  refine lv_aload_n hx hb dX1_drawMonths_102 rfl (lv_at hl 0 rfl) ?_
  refine va_get (D := (dC, dI)) (ci := 1) (v := .ref (b 0)) (C := RX1) (T := TX1) (N := 1) hx hb hts in_X1_drawMonths_X1 hown hK hP 0 rfl rfl 0 (by decide) (hts (.fieldLink RX1 12 "BackLoans$Foresight" "trial" "LBackLoans$Town;") (by decide +kernel)) (fun _ h9 => h9) rfl dX1_drawMonths_103 ?_
  exact hR _ _ _ _ _ dX1_drawMonths_106 hf hP hD hS
def f_X1_drawMonths (x2 : Int32) (x3 : Int32) (x4 : Int32) (N : Tw) (T : Tw) : Option Tw :=
  bn (f_X5_copyFrom N T) fun r5 =>
  lett ((x2).toInt64) fun x5_10 =>
  lett (0 : Int32) fun x7_13 =>
  l_X1_drawMonths_15 x3 x4 T (fun Nz => f_X1_drawMonths_102 Nz T) FU x5_10 x7_13 r5
set_option maxHeartbeats 4000000 in
set_option maxRecDepth 100000 in
theorem c_X1_drawMonths (l : Launch) (dC : Nat → ClassId) (dI : Nat → Nat → Nat) (cs : Nat → ClassId) (a : Nat → Nat) (b : Nat → Nat) (d : Nat → Nat) (sz : Nat) (N : Tw) (T : Tw) (x2 : Int32) (x3 : Int32) (x4 : Int32) (res : Tw) (hf : f_X1_drawMonths x2 x3 x4 N T = some res) : Met l yX1_drawMonths wsX1_drawMonths ({ frames := 4, cells := 0, slots := 0, locals := 88 }) (va_Pc [.ref (a 0), .ref (d 0), .int (x2), .int (x3), .int (x4)] (fun U => U.heap.size = sz ∧ va_P (dC, dI) vwCl (wF (a 0) (b 0) ++ wT cs b N ++ wT cs d T) U.heap ∧ GE dC dI cs U ∧ va_D (fun _ => True) (wF (a 0) (b 0) ++ wT cs b N ++ wT cs d T))) (va_Qr (fun u : Tw => u = res) (fun u q t => q = (b 0) ∧ va_P (dC, dI) vwCl ((fun u : Tw => (wF (a 0) (b 0) ++ wT cs b u ++ wT cs d T)) u) t.heap ∧ va_D (va_A (wF (a 0) (b 0) ++ wT cs b N ++ wT cs d T) sz) ((fun u : Tw => (wF (a 0) (b 0) ++ wT cs b u ++ wT cs d T)) u)) (va_A (wF (a 0) (b 0) ++ wT cs b N ++ wT cs d T) sz)) 0 0 (va_A (wF (a 0) (b 0) ++ wT cs b N ++ wT cs d T) sz) := by
  refine Met.ofW (cc := cX1_drawMonths) (maxL := 10) (ret := (some (.object "BackLoans$Town"))) (by decide) rfl ?_
  intro p e s m args below meth c s₁ B hml hv
  obtain ⟨rfl, hsz, hP, G, hD0⟩ := hv
  have hts := atoms_spec (ws := wsX1_drawMonths) B.pre
  have hown : s.vm.findClass RX1 = some m.cls := findClass_of_methodNamed B.named
  have hlocks := B.notSynchronized
  have hx := B.exec
  have hb := B.bytes
  have hr := B.returns
  have C : CallFix p m c cX1_drawMonths 10 s _ wsX1_drawMonths RX1 := ⟨hx, hb, hml, hown, hts⟩
  obtain ⟨hK, hN⟩ := id G
  subst hsz
  have hD := hD0.self (sz := s.heap.size)
  generalize hAe : va_A (wF (a 0) (b 0) ++ wT cs b N ++ wT cs d T) s.heap.size = A at hD ⊢
  have hA : ∀ q : Nat, s.heap.size ≤ q → A q := fun q h => by rw [← hAe]; exact Or.inr h
  have hS : va_S A s.heap s.heap [] := va_S.rf
  have hR : RTr p l e ({ frames := 4, cells := 0, slots := 0, locals := 88 }) s m ([.ref (a 0), .ref (d 0), .int (x2), .int (x3), .int (x4)] : List Value).toArray below meth c cX1_drawMonths (MQ below (va_Qr (fun u : Tw => u = res) (fun u q t => q = (b 0) ∧ va_P (dC, dI) vwCl ((fun u : Tw => (wF (a 0) (b 0) ++ wT cs b u ++ wT cs d T)) u) t.heap ∧ va_D A ((fun u : Tw => (wF (a 0) (b 0) ++ wT cs b u ++ wT cs d T)) u)) A) ([.ref (a 0), .ref (d 0), .int (x2), .int (x3), .int (x4)] : List Value).toArray s 0 0 A) (dC, dI) A (fun u : Tw => (wF (a 0) (b 0) ++ wT cs b u ++ wT cs d T)) (b 0) res := fun H locs pc ls u dd h hP hD hS => W.aret hx hb hr (Or.inl ⟨_, rfl⟩) (Or.inr ⟨_, rfl⟩) (fun t ht hW => ⟨⟨u, _, rfl, by cases h; rfl, rfl, by rw [ht]; exact hP, hD⟩, hS.F ht⟩) hS.2.2 dd
  have hl := lv_entry ([.ref (a 0), .ref (d 0), .int (x2), .int (x3), .int (x4)]) (n := 10) (Nat.le_of_ble_eq_true rfl)
  rw [lg_entry_eq]
  generalize (lg_sl ([.ref (a 0), .ref (d 0), .int (x2), .int (x3), .int (x4)]) ++ List.replicate (10 - (lg_sl ([.ref (a 0), .ref (d 0), .int (x2), .int (x3), .int (x4)])).length) Slot.unset).toArray = ls at hl ⊢
  have hl : lv_has ls 10 [(0, .ref (a 0)), (1, .ref (d 0)), (2, .int (x2)), (3, .int (x3)), (4, .int (x4))] := hl
  unfold f_X1_drawMonths at hf
  refine lv_aload_n hx hb dX1_drawMonths_0 rfl (lv_at hl 0 rfl) ?_
  refine va_get (D := (dC, dI)) (ci := 1) (v := .ref (b 0)) (C := RX1) (T := TX1) (N := 1) hx hb hts in_X1_drawMonths_X1 hown hK hP 0 rfl rfl 0 (by decide) (hts (.fieldLink RX1 12 "BackLoans$Foresight" "trial" "LBackLoans$Town;") (by decide +kernel)) (fun _ h9 => h9) rfl dX1_drawMonths_1 ?_
  refine lv_aload_n hx hb dX1_drawMonths_4 rfl (lv_at hl 1 rfl) ?_
  obtain ⟨r5, hr5, hf⟩ := bn_e hf
  have hPc := hP.sub (ws' := (wT cs b N ++ wT cs d T)) [1, 2, 3, 4, 5, 6, 7, 8, 9, 10, 11, 12, 13, 14, 15, 16, 17, 18, 19, 20, 21, 22] rfl
  have hDc := hD.sub (ws' := (wT cs b N ++ wT cs d T)) [1, 2, 3, 4, 5, 6, 7, 8, 9, 10, 11, 12, 13, 14, 15, 16, 17, 18, 19, 20, 21, 22] (by decide) rfl
  have hFc := va_free (wc := (wT cs b N ++ wT cs d T)) hD hS hA [1, 2, 3, 4, 5, 6, 7, 8, 9, 10, 11, 12, 13, 14, 15, 16, 17, 18, 19, 20, 21, 22] rfl
  refine va_callv (va_runV (As := [.ref (d 0)]) (rest := []) C (c_X5_copyFrom l dC dI cs b d s.heap.size N T r5 hr5) (cwV 1 hts gX1_drawMonths_X5_copyFrom rfl rfl rfl (by decide +kernel) ⟨Nat.le_of_ble_eq_true rfl, Nat.le_of_ble_eq_true rfl⟩) ⟨(fun a U g mk q => ⟨q.1, q.2.1, q.2.2.1, GE.calling q.2.2.2.1, q.2.2.2.2⟩), va_recv hK hPc (ci := 5) (q0 := 0) rfl rfl, (fun U hU hW => ⟨rfl, by rw [hU], by rw [hU]; exact hPc, GE.warm hW G, hDc.weaken (fun _ _ _ _ => trivial)⟩)⟩ rfl rfl hl.1 rfl (lv_room (Nat.le_of_ble_eq_true rfl)) dX1_drawMonths_5 ⟨Nat.le_of_ble_eq_true rfl, Nat.le_of_ble_eq_true rfl⟩) hS (fun q _ h => hFc q h) hFc (fun u t H1 locs ht hvm hw hB hz1 hk1 hS => ?_)
  obtain rfl := hw.symm
  obtain ⟨hP1, hD1⟩ := hB
  rw [ht] at hP1
  obtain ⟨hP, hD⟩ := va_join (wr := [0].filterMap (fun i => ((wF (a 0) (b 0) ++ wT cs b N ++ wT cs d T))[i]?)) (w1 := (wT cs b r5 ++ wT cs d T)) hP hD [1, 2, 3, 4, 5, 6, 7, 8, 9, 10, 11, 12, 13, 14, 15, 16, 17, 18, 19, 20, 21, 22] [0] rfl rfl (by decide) (by decide) hk1 hFc hP1 hD1
  generalize H1 = H at hP hS ⊢
  have hP := hP.sub (ws' := (wF (a 0) (b 0) ++ wT cs b r5 ++ wT cs d T)) [0, 1, 2, 3, 4, 5, 6, 7, 8, 9, 10, 11, 12, 13, 14, 15, 16, 17, 18, 19, 20, 21, 22] rfl
  have hD := hD.sub (ws' := (wF (a 0) (b 0) ++ wT cs b r5 ++ wT cs d T)) [0, 1, 2, 3, 4, 5, 6, 7, 8, 9, 10, 11, 12, 13, 14, 15, 16, 17, 18, 19, 20, 21, 22] (by decide) rfl
  refine lv_iload_n hx hb dX1_drawMonths_8 rfl (lv_at hl 2 rfl) ?_
  refine lv_i2l hx hb dX1_drawMonths_9 rfl ?_
  refine lv_topl (fun x5_10 ex5_10 => ?_)
  replace hf := lett_s ex5_10 hf
  refine lv_lstore (lv' := [(5, .long (x5_10)), (0, .ref (a 0)), (1, .ref (d 0)), (2, .int (x2)), (3, .int (x3)), (4, .int (x4))]) hx hb dX1_drawMonths_10 hl (by decide) rfl (fun ls hl => ?_)
  refine lv_iconst (v := 0) hx hb dX1_drawMonths_12 (by decide) ?_
  refine lv_topi (fun x7_13 ex7_13 => ?_)
  replace hf := lett_s ex7_13 hf
  refine lv_istore (lv' := [(7, .int (x7_13)), (5, .long (x5_10)), (0, .ref (a 0)), (1, .ref (d 0)), (2, .int (x2)), (3, .int (x3)), (4, .int (x4))]) hx hb dX1_drawMonths_13 hl (by decide) rfl (fun ls hl => ?_)
  exact w_X1_drawMonths_15 C G hA hR x3 x4 T (fun Nz H locs ls hl hP hD hS hf => b_X1_drawMonths_102 C G hA hR Nz T _ _ _ hl hP hD hS hf) FU x5_10 x7_13 r5 _ _ _ (lv_sub hl [2, 5, 6, 1, 0] rfl) hP hD hS hf

