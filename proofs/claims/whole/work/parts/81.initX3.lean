theorem in_X3_init_X3 : ∀ w ∈ wsX30, w ∈ wsX3_init := by decide +kernel
set_option maxHeartbeats 8000000 in
set_option maxRecDepth 100000 in
theorem c_X3_init (l : Launch) (dC : Nat → ClassId) (dI : Nat → Nat → Nat) (cs : Nat → ClassId) (h0 : Nat) (sz : Nat) : Met l yX3_init wsX3_init ({ frames := 1, cells := 1, slots := 280, locals := 12 }) (va_Pc [.ref h0] (fun U => U.heap.size = sz ∧ va_P (dC, dI) vwCl [(h0, .inr (3, [.int 0, .null]))] U.heap ∧ GE dC dI cs U ∧ va_D (fun _ => True) [(h0, .inr (3, [.int 0, .null]))])) (va_Qv (fun a : Nat → Nat => a 0 = h0) (fun a t => va_P (dC, dI) vwCl (wP cs a P0) t.heap ∧ va_D (va_A [(h0, .inr (3, [.int 0, .null]))] sz) (wP cs a P0)) (va_A [(h0, .inr (3, [.int 0, .null]))] sz)) 1 280 (va_A [(h0, .inr (3, [.int 0, .null]))] sz) := by
  refine Met.ofW (cc := cX3_init) (maxL := 1) (ret := none) (by decide) rfl ?_
  intro p e s m args below meth c s₁ Bd hml hv
  obtain ⟨rfl, hsz, hP, G, hD0⟩ := hv
  have hts := atoms_spec (ws := wsX3_init) Bd.pre
  have hown : s.vm.findClass RX3 = some m.cls := findClass_of_methodNamed Bd.named
  have hlocks := Bd.notSynchronized
  have hx := Bd.exec
  have hb := Bd.bytes
  have hr := Bd.returns
  have C : CallFix p m c cX3_init 1 s _ wsX3_init RX3 := ⟨hx, hb, hml, hown, hts⟩
  obtain ⟨hK, hN⟩ := id G
  subst hsz
  have hD := hD0.self (sz := s.heap.size)
  generalize hAe : va_A [(h0, .inr (3, [.int 0, .null]))] s.heap.size = A at hD ⊢
  have hA : ∀ q : Nat, s.heap.size ≤ q → A q := fun q h => by rw [← hAe]; exact Or.inr h
  have hS : va_S A s.heap s.heap [] := va_S.rf
  have hl := lv_entry ([.ref h0]) (n := 1) (Nat.le_of_ble_eq_true rfl)
  rw [lg_entry_eq]
  generalize (lg_sl ([.ref h0]) ++ List.replicate (1 - (lg_sl ([.ref h0])).length) Slot.unset).toArray = ls at hl ⊢
  have hl : lv_has ls 1 [(0, .ref h0)] := hl
  have hin : meth.name = "<init>" := (name_of_methodNamed Bd.named Bd.method).1
  refine lv_aload_n hx hb dX3_init_0 rfl (lv_at hl 0 rfl) ?_
  refine W.objInit hx hb hown (hts (.methodLink RX3 5 objectInit) (by decide +kernel)) (hts (.instanceMethod objectInit) (by decide +kernel)) (hts (.code objectInit ⟨#[0xb1]⟩ 1 none) (by decide +kernel)) rfl (by rw [hml]; exact hl.1) rfl dX3_init_1 (Nat.le_of_ble_eq_true rfl) (Nat.le_of_ble_eq_true rfl) ?_
  refine W.eq (g2 := F0 m 4 ls []) rfl ?_
  refine lv_aload_n hx hb dX3_init_4 rfl (lv_at hl 0 rfl) ?_
  refine lv_sipush (v := 280) hx hb dX3_init_5 (by decide) ?_
  refine nwa (tys := tyL cs) (a0 := (280, .inl (fun _ => 0))) 0 (cA := cs 0) (ty := .int) (atype := .int) (N' := 280) (n := 280) hx hb (hts (.arrayClass .int) (by decide +kernel)) rfl hK hP hD hS hA rfl rfl (fun _ => rfl) (by decide) rfl (by decide) (Nat.le_of_ble_eq_true rfl) (Nat.le_of_ble_eq_true rfl) dX3_init_8 (fun q8 H hP hD hS => ?_)
  have hP : va_P (dC, dI) vwCl ([(h0, .inr (3, [.int 0, .null]))] ++ [(q8, .inl (cs 0, 280, .inl (fun _ => 0)))]) H := hP
  have hD : va_D A ([(h0, .inr (3, [.int 0, .null]))] ++ [(q8, .inl (cs 0, 280, .inl (fun _ => 0)))]) := hD
  refine va_putF (D := (dC, dI)) (ci := 3) (v := .ref q8) (ty := .array .int) (C := RX3) (T := TX3) (N := 2) hx hb hts in_X3_init_X3 tyX3 tyX3_ok nmX3 hown hK hP hD hS 0 rfl rfl 1 (by decide) (hts (.fieldLink RX3 11 "BackLoans$Past" "row" "[I") (by decide +kernel)) (fun _ h9 => h9) rfl hin rfl (by decide +kernel) rfl rfl (Nat.le_of_ble_eq_true rfl) dX3_init_10 (fun H locs hP hD hS => ?_)
  have hP : va_P (dC, dI) vwCl ([(h0, .inr (3, [.int 0, .ref q8]))] ++ [(q8, .inl (cs 0, 280, .inl (fun _ => 0)))]) H := hP
  have hD : va_D A ([(h0, .inr (3, [.int 0, .ref q8]))] ++ [(q8, .inl (cs 0, 280, .inl (fun _ => 0)))]) := hD
  obtain ⟨av, hav⟩ : ∃ z : Nat → Nat, z = (fun i => if i < 1 then h0 else q8) := ⟨_, rfl⟩
  have hP9 : va_P (dC, dI) vwCl (wP cs av P0) H := by rw [hav]; exact hP
  have hD9 : va_D A (wP cs av P0) := by rw [hav]; exact hD
  refine W.widen (k := 1) (n := 280) (Nat.le_of_ble_eq_true rfl) (Nat.le_of_ble_eq_true rfl) ?_
  exact W.vret hx hb hr (fun t ht hW => ⟨⟨av, rfl, by rw [hav]; rfl, by rw [ht]; exact hP9, hD9⟩, hS.F ht⟩) hS.2.2 dX3_init_13
