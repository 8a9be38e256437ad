theorem in_X2_init_X2 : ∀ w ∈ wsX20, w ∈ wsX2_init := by decide +kernel
theorem in_X2_init_X3 : ∀ w ∈ wsX30, w ∈ wsX2_init := by decide +kernel
theorem in_X2_init_X5 : ∀ w ∈ wsX50, w ∈ wsX2_init := by decide +kernel
set_option maxHeartbeats 8000000 in
set_option maxRecDepth 100000 in
theorem c_X2_init (l : Launch) (dC : Nat → ClassId) (dI : Nat → Nat → Nat) (cs : Nat → ClassId) (h0 : Nat) (sz : Nat) : Met l yX2_init wsX2_init ({ frames := 2, cells := 13, slots := 373, locals := 32 }) (va_Pc [.ref h0] (fun U => U.heap.size = sz ∧ va_P (dC, dI) vwCl [(h0, .inr (2, [.null, .null, .int 0]))] U.heap ∧ GE dC dI cs U ∧ va_D (fun _ => True) [(h0, .inr (2, [.null, .null, .int 0]))])) (va_Qv (fun a : Nat → Nat => a 0 = h0) (fun a t => va_P (dC, dI) vwCl (wI (a 0) (a 1) (a 12) 0 ++ wT cs (fun i => a (1 + i)) T0 ++ wP cs (fun i => a (12 + i)) P0) t.heap ∧ va_D (va_A [(h0, .inr (2, [.null, .null, .int 0]))] sz) (wI (a 0) (a 1) (a 12) 0 ++ wT cs (fun i => a (1 + i)) T0 ++ wP cs (fun i => a (12 + i)) P0)) (va_A [(h0, .inr (2, [.null, .null, .int 0]))] sz)) 13 373 (va_A [(h0, .inr (2, [.null, .null, .int 0]))] sz) := by
  refine Met.ofW (cc := cX2_init) (maxL := 1) (ret := none) (by decide) rfl ?_
  intro p e s m args below meth c s₁ Bd hml hv
  obtain ⟨rfl, hsz, hP, G, hD0⟩ := hv
  have hts := atoms_spec (ws := wsX2_init) Bd.pre
  have hown : s.vm.findClass RX2 = some m.cls := findClass_of_methodNamed Bd.named
  have hlocks := Bd.notSynchronized
  have hx := Bd.exec
  have hb := Bd.bytes
  have hr := Bd.returns
  have C : CallFix p m c cX2_init 1 s _ wsX2_init RX2 := ⟨hx, hb, hml, hown, hts⟩
  obtain ⟨hK, hN⟩ := id G
  subst hsz
  have hD := hD0.self (sz := s.heap.size)
  generalize hAe : va_A [(h0, .inr (2, [.null, .null, .int 0]))] s.heap.size = A at hD ⊢
  have hA : ∀ q : Nat, s.heap.size ≤ q → A q := fun q h => by rw [← hAe]; exact Or.inr h
  have hS : va_S A s.heap s.heap [] := va_S.rf
  have hl := lv_entry ([.ref h0]) (n := 1) (Nat.le_of_ble_eq_true rfl)
  rw [lg_entry_eq]
  generalize (lg_sl ([.ref h0]) ++ List.replicate (1 - (lg_sl ([.ref h0])).length) Slot.unset).toArray = ls at hl ⊢
  have hl : lv_has ls 1 [(0, .ref h0)] := hl
  have hin : meth.name = "<init>" := (name_of_methodNamed Bd.named Bd.method).1
  refine lv_aload_n hx hb dX2_init_0 rfl (lv_at hl 0 rfl) ?_
  refine W.objInit hx hb hown (hts (.methodLink RX2 1 objectInit) (by decide +kernel)) (hts (.instanceMethod objectInit) (by decide +kernel)) (hts (.code objectInit ⟨#[0xb1]⟩ 1 none) (by decide +kernel)) rfl (by rw [hml]; exact hl.1) rfl dX2_init_1 (Nat.le_of_ble_eq_true rfl) (Nat.le_of_ble_eq_true rfl) ?_
  refine W.eq (g2 := F0 m 4 ls []) rfl ?_
  refine lv_aload_n hx hb dX2_init_4 rfl (lv_at hl 0 rfl) ?_
  refine va_new (ci := 5) (fs := [.int 0, .int 0, .int 0, .int 0, .int 0, .int 0, .int 0, .null, .null, .null, .null, .null, .null, .null, .null, .null, .null]) (C := RX5) (T := TX5) (N := 17) hx hb hts in_X2_init_X5 tyX5 tyX5_ok hown (hts (.classLink RX2 7 RX5) (by decide +kernel)) (hts (.instantiable RX5 17) (by decide +kernel)) (hts (.initialized RX5) (by decide +kernel)) hK hP hD hS hA rfl (fun j hj => by match j, hj with | 0, _ => exact rfl | 1, _ => exact rfl | 2, _ => exact rfl | 3, _ => exact rfl | 4, _ => exact rfl | 5, _ => exact rfl | 6, _ => exact rfl | 7, _ => exact rfl | 8, _ => exact rfl | 9, _ => exact rfl | 10, _ => exact rfl | 11, _ => exact rfl | 12, _ => exact rfl | 13, _ => exact rfl | 14, _ => exact rfl | 15, _ => exact rfl | 16, _ => exact rfl | j + 17, h => exact absurd h (by omega)) (Nat.le_of_ble_eq_true rfl) (Nat.le_of_ble_eq_true rfl) dX2_init_5 (fun q5 H hP hD hS => ?_)
  have hP : va_P (dC, dI) vwCl ([(h0, .inr (2, [.null, .null, .int 0]))] ++ [(q5, .inr (5, [.int 0, .int 0, .int 0, .int 0, .int 0, .int 0, .int 0, .null, .null, .null, .null, .null, .null, .null, .null, .null, .null]))]) H := hP
  have hD : va_D A ([(h0, .inr (2, [.null, .null, .int 0]))] ++ [(q5, .inr (5, [.int 0, .int 0, .int 0, .int 0, .int 0, .int 0, .int 0, .null, .null, .null, .null, .null, .null, .null, .null, .null, .null]))]) := hD
  refine lv_dup hx hb dX2_init_8 rfl ?_
  have hPc := hP.sub (ws' := [(q5, .inr (5, [.int 0, .int 0, .int 0, .int 0, .int 0, .int 0, .int 0, .null, .null, .null, .null, .null, .null, .null, .null, .null, .null]))]) [1] rfl
  have hDc := hD.sub (ws' := [(q5, .inr (5, [.int 0, .int 0, .int 0, .int 0, .int 0, .int 0, .int 0, .null, .null, .null, .null, .null, .null, .null, .null, .null, .null]))]) [1] (by decide) rfl
  have hFc := va_free (wc := [(q5, .inr (5, [.int 0, .int 0, .int 0, .int 0, .int 0, .int 0, .int 0, .null, .null, .null, .null, .null, .null, .null, .null, .null, .null]))]) hD hS hA [1] rfl
  refine va_callv (va_runIN (As := []) (rest := [.ref q5, .ref h0]) C (c_X5_init l dC dI cs q5 H.size) ⟨va_cnB 0 hts gX2_init_X5_init_n9 rfl rfl rfl (hN (RX2, 9, yX5_init, RX7) (by decide +kernel)) (hts (.initialized RX5) (by decide +kernel)) (by decide +kernel) ⟨Nat.le_of_ble_eq_true rfl, Nat.le_of_ble_eq_true rfl⟩, rfl, hts (.instanceMethod yX5_init) (by decide +kernel)⟩ ⟨(fun a U g mk q => ⟨q.1, q.2.1, q.2.2.1, GE.calling q.2.2.2.1, q.2.2.2.2⟩), (fun U hU hW => ⟨rfl, by rw [hU], by rw [hU]; exact hPc, GE.warm hW G, hDc.weaken (fun _ _ _ _ => trivial)⟩)⟩ rfl rfl hl.1 rfl (lv_room (Nat.le_of_ble_eq_true rfl)) dX2_init_9 ⟨Nat.le_of_ble_eq_true rfl, Nat.le_of_ble_eq_true rfl⟩) hS (fun q _ h => hFc q h) hFc (fun a9 t H1 locs ht hvm hw hB hz1 hk1 hS => ?_)
  obtain ⟨hP1, hD1⟩ := hB
  rw [ht] at hP1
  obtain ⟨hPj, hDj⟩ := va_join (wr := ([(h0, .inr (2, [.null, .null, .int 0]))])) (w1 := (wT cs a9 T0)) hP hD [1] [0] rfl rfl (by decide) (by decide) hk1 hFc hP1 hD1
  generalize H1 = H at hPj hS ⊢
  subst hw
  have hP : va_P (dC, dI) vwCl ([(h0, .inr (2, [.null, .null, .int 0]))] ++ (wT cs a9 T0)) H := hPj
  have hD : va_D A ([(h0, .inr (2, [.null, .null, .int 0]))] ++ (wT cs a9 T0)) := hDj
  refine va_putF (D := (dC, dI)) (ci := 2) (v := .ref (a9 0)) (ty := .object "BackLoans$Town") (C := RX2) (T := TX2) (N := 3) hx hb hts in_X2_init_X2 tyX2 tyX2_ok nmX2 hown hK hP hD hS 0 rfl rfl 0 (by decide) (hts (.fieldLink RX2 10 "BackLoans$Image" "town" "LBackLoans$Town;") (by decide +kernel)) (fun _ h9 => h9) rfl hin rfl (by decide +kernel) rfl rfl (Nat.le_of_ble_eq_true rfl) dX2_init_12 (fun H locs hP hD hS => ?_)
  have hP : va_P (dC, dI) vwCl ([(h0, .inr (2, [.ref (a9 0), .null, .int 0]))] ++ (wT cs a9 T0)) H := hP
  have hD : va_D A ([(h0, .inr (2, [.ref (a9 0), .null, .int 0]))] ++ (wT cs a9 T0)) := hD
  refine lv_aload_n hx hb dX2_init_15 rfl (lv_at hl 0 rfl) ?_
  refine va_new (ci := 3) (fs := [.int 0, .null]) (C := RX3) (T := TX3) (N := 2) hx hb hts in_X2_init_X3 tyX3 tyX3_ok hown (hts (.classLink RX2 16 RX3) (by decide +kernel)) (hts (.instantiable RX3 2) (by decide +kernel)) (hts (.initialized RX3) (by decide +kernel)) hK hP hD hS hA rfl (fun j hj => by match j, hj with | 0, _ => exact rfl | 1, _ => exact rfl | j + 2, h => exact absurd h (by omega)) (Nat.le_of_ble_eq_true rfl) (Nat.le_of_ble_eq_true rfl) dX2_init_16 (fun q16 H hP hD hS => ?_)
  have hP : va_P (dC, dI) vwCl ([(h0, .inr (2, [.ref (a9 0), .null, .int 0]))] ++ (wT cs a9 T0) ++ [(q16, .inr (3, [.int 0, .null]))]) H := hP
  have hD : va_D A ([(h0, .inr (2, [.ref (a9 0), .null, .int 0]))] ++ (wT cs a9 T0) ++ [(q16, .inr (3, [.int 0, .null]))]) := hD
  refine lv_dup hx hb dX2_init_19 rfl ?_
  have hPc := hP.sub (ws' := [(q16, .inr (3, [.int 0, .null]))]) [12] rfl
  have hDc := hD.sub (ws' := [(q16, .inr (3, [.int 0, .null]))]) [12] (by decide) rfl
  have hFc := va_free (wc := [(q16, .inr (3, [.int 0, .null]))]) hD hS hA [12] rfl
  refine va_callv (va_runIN (As := []) (rest := [.ref q16, .ref h0]) C (c_X3_init l dC dI cs q16 H.size) ⟨va_cnB 0 hts gX2_init_X3_init_n18 rfl rfl rfl (hN (RX2, 18, yX3_init, RX7) (by decide +kernel)) (hts (.initialized RX3) (by decide +kernel)) (by decide +kernel) ⟨Nat.le_of_ble_eq_true rfl, Nat.le_of_ble_eq_true rfl⟩, rfl, hts (.instanceMethod yX3_init) (by decide +kernel)⟩ ⟨(fun a U g mk q => ⟨q.1, q.2.1, q.2.2.1, GE.calling q.2.2.2.1, q.2.2.2.2⟩), (fun U hU hW => ⟨rfl, by rw [hU], by rw [hU]; exact hPc, GE.warm hW G, hDc.weaken (fun _ _ _ _ => trivial)⟩)⟩ rfl rfl hl.1 rfl (lv_room (Nat.le_of_ble_eq_true rfl)) dX2_init_20 ⟨Nat.le_of_ble_eq_true rfl, Nat.le_of_ble_eq_true rfl⟩) hS (fun q _ h => hFc q h) hFc (fun a20 t H1 locs ht hvm hw hB hz1 hk1 hS => ?_)
  obtain ⟨hP1, hD1⟩ := hB
  rw [ht] at hP1
  obtain ⟨hPj, hDj⟩ := va_join (wr := ([(h0, .inr (2, [.ref (a9 0), .null, .int 0]))] ++ (wT cs a9 T0))) (w1 := (wP cs a20 P0)) hP hD [12] [0, 1, 2, 3, 4, 5, 6, 7, 8, 9, 10, 11] rfl rfl (by decide) (by decide) hk1 hFc hP1 hD1
  generalize H1 = H at hPj hS ⊢
  subst hw
  have hP : va_P (dC, dI) vwCl ([(h0, .inr (2, [.ref (a9 0), .null, .int 0]))] ++ (wT cs a9 T0) ++ (wP cs a20 P0)) H := hPj
  have hD : va_D A ([(h0, .inr (2, [.ref (a9 0), .null, .int 0]))] ++ (wT cs a9 T0) ++ (wP cs a20 P0)) := hDj
  refine va_putF (D := (dC, dI)) (ci := 2) (v := .ref (a20 0)) (ty := .object "BackLoans$Past") (C := RX2) (T := TX2) (N := 3) hx hb hts in_X2_init_X2 tyX2 tyX2_ok nmX2 hown hK hP hD hS 0 rfl rfl 1 (by decide) (hts (.fieldLink RX2 19 "BackLoans$Image" "past" "LBackLoans$Past;") (by decide +kernel)) (fun _ h9 => h9) rfl hin rfl (by decide +kernel) rfl rfl (Nat.le_of_ble_eq_true rfl) dX2_init_23 (fun H locs hP hD hS => ?_)
  have hP : va_P (dC, dI) vwCl ([(h0, .inr (2, [.ref (a9 0), .ref (a20 0), .int 0]))] ++ (wT cs a9 T0) ++ (wP cs a20 P0)) H := hP
  have hD : va_D A ([(h0, .inr (2, [.ref (a9 0), .ref (a20 0), .int 0]))] ++ (wT cs a9 T0) ++ (wP cs a20 P0)) := hD
  obtain ⟨av, hav⟩ : ∃ z : Nat → Nat, z = (fun i => if i < 1 then h0 else if i < 12 then a9 (i - 1) else a20 (i - 12)) := ⟨_, rfl⟩
  have hP9 : va_P (dC, dI) vwCl (wI (av 0) (av 1) (av 12) 0 ++ wT cs (fun i => av (1 + i)) T0 ++ wP cs (fun i => av (12 + i)) P0) H := by rw [hav]; exact hP
  have hD9 : va_D A (wI (av 0) (av 1) (av 12) 0 ++ wT cs (fun i => av (1 + i)) T0 ++ wP cs (fun i => av (12 + i)) P0) := by rw [hav]; exact hD
  refine W.widen (k := 13) (n := 373) (Nat.le_of_ble_eq_true rfl) (Nat.le_of_ble_eq_true rfl) ?_
  exact W.vret hx hb hr (fun t ht hW => ⟨⟨av, rfl, by rw [hav]; rfl, by rw [ht]; exact hP9, hD9⟩, hS.F ht⟩) hS.2.2 dX2_init_26
