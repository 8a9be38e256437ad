theorem in_X6_init_X6 : ∀ w ∈ wsX60, w ∈ wsX6_init := by decide +kernel
set_option maxHeartbeats 8000000 in
set_option maxRecDepth 100000 in
theorem c_X6_init (l : Launch) (dC : Nat → ClassId) (dI : Nat → Nat → Nat) (cs : Nat → ClassId) (h0 : Nat) (sz : Nat) : Met l yX6_init wsX6_init ({ frames := 1, cells := 3, slots := 14, locals := 12 }) (va_Pc [.ref h0] (fun U => U.heap.size = sz ∧ va_P (dC, dI) vwCl [(h0, .inr (6, [.int 0, .int 0, .int 0, .int 0, .null, .null, .null]))] U.heap ∧ GE dC dI cs U ∧ va_D (fun _ => True) [(h0, .inr (6, [.int 0, .int 0, .int 0, .int 0, .null, .null, .null]))])) (va_Qv (fun a : Nat → Nat => a 0 = h0) (fun a t => va_P (dC, dI) vwCl (wW cs a L0) t.heap ∧ va_D (va_A [(h0, .inr (6, [.int 0, .int 0, .int 0, .int 0, .null, .null, .null]))] sz) (wW cs a L0)) (va_A [(h0, .inr (6, [.int 0, .int 0, .int 0, .int 0, .null, .null, .null]))] sz)) 3 14 (va_A [(h0, .inr (6, [.int 0, .int 0, .int 0, .int 0, .null, .null, .null]))] sz) := by
  refine Met.ofW (cc := cX6_init) (maxL := 1) (ret := none) (by decide) rfl ?_
  intro p e s m args below meth c s₁ Bd hml hv
  obtain ⟨rfl, hsz, hP, G, hD0⟩ := hv
  have hts := atoms_spec (ws := wsX6_init) Bd.pre
  have hown : s.vm.findClass RX6 = some m.cls := findClass_of_methodNamed Bd.named
  have hlocks := Bd.notSynchronized
  have hx := Bd.exec
  have hb := Bd.bytes
  have hr := Bd.returns
  have C : CallFix p m c cX6_init 1 s _ wsX6_init RX6 := ⟨hx, hb, hml, hown, hts⟩
  obtain ⟨hK, hN⟩ := id G
  subst hsz
  have hD := hD0.self (sz := s.heap.size)
  generalize hAe : va_A [(h0, .inr (6, [.int 0, .int 0, .int 0, .int 0, .null, .null, .null]))] s.heap.size = A at hD ⊢
  have hA : ∀ q : Nat, s.heap.size ≤ q → A q := fun q h => by rw [← hAe]; exact Or.inr h
  have hS : va_S A s.heap s.heap [] := va_S.rf
  have hl := lv_entry ([.ref h0]) (n := 1) (Nat.le_of_ble_eq_true rfl)
  rw [lg_entry_eq]
  generalize (lg_sl ([.ref h0]) ++ List.replicate (1 - (lg_sl ([.ref h0])).length) Slot.unset).toArray = ls at hl ⊢
  have hl : lv_has ls 1 [(0, .ref h0)] := hl
  have hin : meth.name = "<init>" := (name_of_methodNamed Bd.named Bd.method).1
  refine lv_aload_n hx hb dX6_init_0 rfl (lv_at hl 0 rfl) ?_
  refine W.objInit hx hb hown (hts (.methodLink RX6 3 objectInit) (by decide +kernel)) (hts (.instanceMethod objectInit) (by decide +kernel)) (hts (.code objectInit ⟨#[0xb1]⟩ 1 none) (by decide +kernel)) rfl (by rw [hml]; exact hl.1) rfl dX6_init_1 (Nat.le_of_ble_eq_true rfl) (Nat.le_of_ble_eq_true rfl) ?_
  refine W.eq (g2 := F0 m 4 ls []) rfl ?_
  refine lv_aload_n hx hb dX6_init_4 rfl (lv_at hl 0 rfl) ?_
  refine lv_bipush (v := 8) hx hb dX6_init_5 (by decide) ?_
  refine nwa (tys := tyL cs) (a0 := (8, .inl (fun _ => 0))) 0 (cA := cs 0) (ty := .int) (atype := .int) (N' := 8) (n := 8) hx hb (hts (.arrayClass .int) (by decide +kernel)) rfl hK hP hD hS hA rfl rfl (fun _ => rfl) (by decide) rfl (by decide) (Nat.le_of_ble_eq_true rfl) (Nat.le_of_ble_eq_true rfl) dX6_init_7 (fun q7 H hP hD hS => ?_)
  have hP : va_P (dC, dI) vwCl ([(h0, .inr (6, [.int 0, .int 0, .int 0, .int 0, .null, .null, .null]))] ++ [(q7, .inl (cs 0, 8, .inl (fun _ => 0)))]) H := hP
  have hD : va_D A ([(h0, .inr (6, [.int 0, .int 0, .int 0, .int 0, .null, .null, .null]))] ++ [(q7, .inl (cs 0, 8, .inl (fun _ => 0)))]) := hD
  refine va_putF (D := (dC, dI)) (ci := 6) (v := .ref q7) (ty := .array .int) (C := RX6) (T := TX6) (N := 7) hx hb hts in_X6_init_X6 tyX6 tyX6_ok nmX6 hown hK hP hD hS 0 rfl rfl 4 (by decide) (hts (.fieldLink RX6 9 "BackLoans$Will" "worth" "[I") (by decide +kernel)) (fun _ h9 => h9) rfl hin rfl (by decide +kernel) rfl rfl (Nat.le_of_ble_eq_true rfl) dX6_init_9 (fun H locs hP hD hS => ?_)
  have hP : va_P (dC, dI) vwCl ([(h0, .inr (6, [.int 0, .int 0, .int 0, .int 0, .ref q7, .null, .null]))] ++ [(q7, .inl (cs 0, 8, .inl (fun _ => 0)))]) H := hP
  have hD : va_D A ([(h0, .inr (6, [.int 0, .int 0, .int 0, .int 0, .ref q7, .null, .null]))] ++ [(q7, .inl (cs 0, 8, .inl (fun _ => 0)))]) := hD
  refine lv_aload_n hx hb dX6_init_12 rfl (lv_at hl 0 rfl) ?_
  refine lv_iconst (v := 3) hx hb dX6_init_13 (by decide) ?_
  refine nwa (tys := tyL cs) (a0 := (3, .inl (fun _ => 0))) 0 (cA := cs 0) (ty := .int) (atype := .int) (N' := 3) (n := 3) hx hb (hts (.arrayClass .int) (by decide +kernel)) rfl hK hP hD hS hA rfl rfl (fun _ => rfl) (by decide) rfl (by decide) (Nat.le_of_ble_eq_true rfl) (Nat.le_of_ble_eq_true rfl) dX6_init_14 (fun q14 H hP hD hS => ?_)
  have hP : va_P (dC, dI) vwCl ([(h0, .inr (6, [.int 0, .int 0, .int 0, .int 0, .ref q7, .null, .null]))] ++ [(q7, .inl (cs 0, 8, .inl (fun _ => 0)))] ++ [(q14, .inl (cs 0, 3, .inl (fun _ => 0)))]) H := hP
  have hD : va_D A ([(h0, .inr (6, [.int 0, .int 0, .int 0, .int 0, .ref q7, .null, .null]))] ++ [(q7, .inl (cs 0, 8, .inl (fun _ => 0)))] ++ [(q14, .inl (cs 0, 3, .inl (fun _ => 0)))]) := hD
  refine va_putF (D := (dC, dI)) (ci := 6) (v := .ref q14) (ty := .array .int) (C := RX6) (T := TX6) (N := 7) hx hb hts in_X6_init_X6 tyX6 tyX6_ok nmX6 hown hK hP hD hS 0 rfl rfl 5 (by decide) (hts (.fieldLink RX6 15 "BackLoans$Will" "heir" "[I") (by decide +kernel)) (fun _ h9 => h9) rfl hin rfl (by decide +kernel) rfl rfl (Nat.le_of_ble_eq_true rfl) dX6_init_16 (fun H locs hP hD hS => ?_)
  have hP : va_P (dC, dI) vwCl ([(h0, .inr (6, [.int 0, .int 0, .int 0, .int 0, .ref q7, .ref q14, .null]))] ++ [(q7, .inl (cs 0, 8, .inl (fun _ => 0)))] ++ [(q14, .inl (cs 0, 3, .inl (fun _ => 0)))]) H := hP
  have hD : va_D A ([(h0, .inr (6, [.int 0, .int 0, .int 0, .int 0, .ref q7, .ref q14, .null]))] ++ [(q7, .inl (cs 0, 8, .inl (fun _ => 0)))] ++ [(q14, .inl (cs 0, 3, .inl (fun _ => 0)))]) := hD
  refine lv_aload_n hx hb dX6_init_19 rfl (lv_at hl 0 rfl) ?_
  refine lv_iconst (v := 3) hx hb dX6_init_20 (by decide) ?_
  refine nwa (tys := tyL cs) (a0 := (3, .inl (fun _ => 0))) 0 (cA := cs 0) (ty := .int) (atype := .int) (N' := 3) (n := 3) hx hb (hts (.arrayClass .int) (by decide +kernel)) rfl hK hP hD hS hA rfl rfl (fun _ => rfl) (by decide) rfl (by decide) (Nat.le_of_ble_eq_true rfl) (Nat.le_of_ble_eq_true rfl) dX6_init_21 (fun q21 H hP hD hS => ?_)
  have hP : va_P (dC, dI) vwCl ([(h0, .inr (6, [.int 0, .int 0, .int 0, .int 0, .ref q7, .ref q14, .null]))] ++ [(q7, .inl (cs 0, 8, .inl (fun _ => 0)))] ++ [(q14, .inl (cs 0, 3, .inl (fun _ => 0)))] ++ [(q21, .inl (cs 0, 3, .inl (fun _ => 0)))]) H := hP
  have hD : va_D A ([(h0, .inr (6, [.int 0, .int 0, .int 0, .int 0, .ref q7, .ref q14, .null]))] ++ [(q7, .inl (cs 0, 8, .inl (fun _ => 0)))] ++ [(q14, .inl (cs 0, 3, .inl (fun _ => 0)))] ++ [(q21, .inl (cs 0, 3, .inl (fun _ => 0)))]) := hD
  refine va_putF (D := (dC, dI)) (ci := 6) (v := .ref q21) (ty := .array .int) (C := RX6) (T := TX6) (N := 7) hx hb hts in_X6_init_X6 tyX6 tyX6_ok nmX6 hown hK hP hD hS 0 rfl rfl 6 (by decide) (hts (.fieldLink RX6 18 "BackLoans$Will" "gets" "[I") (by decide +kernel)) (fun _ h9 => h9) rfl hin rfl (by decide +kernel) rfl rfl (Nat.le_of_ble_eq_true rfl) dX6_init_23 (fun H locs hP hD hS => ?_)
  have hP : va_P (dC, dI) vwCl ([(h0, .inr (6, [.int 0, .int 0, .int 0, .int 0, .ref q7, .ref q14, .ref q21]))] ++ [(q7, .inl (cs 0, 8, .inl (fun _ => 0)))] ++ [(q14, .inl (cs 0, 3, .inl (fun _ => 0)))] ++ [(q21, .inl (cs 0, 3, .inl (fun _ => 0)))]) H := hP
  have hD : va_D A ([(h0, .inr (6, [.int 0, .int 0, .int 0, .int 0, .ref q7, .ref q14, .ref q21]))] ++ [(q7, .inl (cs 0, 8, .inl (fun _ => 0)))] ++ [(q14, .inl (cs 0, 3, .inl (fun _ => 0)))] ++ [(q21, .inl (cs 0, 3, .inl (fun _ => 0)))]) := hD
  obtain ⟨av, hav⟩ : ∃ z : Nat → Nat, z = (fun i => if i < 1 then h0 else if i < 2 then q7 else if i < 3 then q14 else q21) := ⟨_, rfl⟩
  have hP9 : va_P (dC, dI) vwCl (wW cs av L0) H := by rw [hav]; exact hP
  have hD9 : va_D A (wW cs av L0) := by rw [hav]; exact hD
  refine W.widen (k := 3) (n := 14) (Nat.le_of_ble_eq_true rfl) (Nat.le_of_ble_eq_true rfl) ?_
  exact W.vret hx hb hr (fun t ht hW => ⟨⟨av, rfl, by rw [hav]; rfl, by rw [ht]; exact hP9, hD9⟩, hS.F ht⟩) hS.2.2 dX6_init_26
