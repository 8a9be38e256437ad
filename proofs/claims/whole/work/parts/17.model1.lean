theorem in_X8_bad_X8 : ∀ w ∈ wsX80, w ∈ wsX8_bad := by decide +kernel
def f_X8_bad  (M : Ms) : Option (Int32 × Ms) :=
  gi ((0 : Int32)) 3 <|
  gi ((0 : Int32)) 3 <|
  lett ((M.1, M.2.1, va_up M.2.2 5 (upd (M.2.2 5) ((0 : Int32)).toNatClampNeg ((((M.2.2 5) ((0 : Int32)).toNatClampNeg) + (1 : Int32)))))) fun M_9 =>
  some ((-2 : Int32), M_9)
set_option maxHeartbeats 4000000 in
set_option maxRecDepth 100000 in
theorem c_X8_bad (l : Launch) (dC : Nat → ClassId) (dI : Nat → Nat → Nat) (cs : Nat → ClassId) (a : Nat → Nat) (sz : Nat) (M : Ms)  (res : Int32 × Ms) (hf : f_X8_bad M = some res) : Met l yX8_bad wsX8_bad ({ frames := 0, cells := 0, slots := 0, locals := 0 }) (va_Pc [.ref (a 0)] (fun U => U.heap.size = sz ∧ va_P (dC, dI) vwCl (wM cs a M) U.heap ∧ GE dC dI cs U ∧ va_D (fun _ => True) (wM cs a M))) (va_Qi (fun r (u : Ms) => r = res.1 ∧ u = res.2) (fun u t => va_P (dC, dI) vwCl ((fun u : Ms => (wM cs a u)) u) t.heap ∧ va_D (va_A (wM cs a M) sz) ((fun u : Ms => (wM cs a u)) u)) (va_A (wM cs a M) sz)) 0 0 (va_A (wM cs a M) sz) := by
  refine Met.ofW (cc := cX8_bad) (maxL := 1) (ret := (some .int)) (by decide) rfl ?_
  intro p e s m args below meth c s₁ Bd hml hv
  obtain ⟨rfl, hsz, hP, G, hD0⟩ := hv
  have hts := atoms_spec (ws := wsX8_bad) Bd.pre
  have hown : s.vm.findClass RX8 = some m.cls := findClass_of_methodNamed Bd.named
  have hlocks := Bd.notSynchronized
  have hx := Bd.exec
  have hb := Bd.bytes
  have hr := Bd.returns
  have C : CallFix p m c cX8_bad 1 s _ wsX8_bad RX8 := ⟨hx, hb, hml, hown, hts⟩
  obtain ⟨hK, hN⟩ := id G
  subst hsz
  have hD := hD0.self (sz := s.heap.size)
  generalize hAe : va_A (wM cs a M) s.heap.size = A at hD ⊢
  have hA : ∀ q : Nat, s.heap.size ≤ q → A q := fun q h => by rw [← hAe]; exact Or.inr h
  have hS : va_S A s.heap s.heap [] := va_S.rf
  have hR : RTi p l e ({ frames := 0, cells := 0, slots := 0, locals := 0 }) s m ([.ref (a 0)] : List Value).toArray below meth c cX8_bad (MQ below (va_Qi (fun r (u : Ms) => r = res.1 ∧ u = res.2) (fun u t => va_P (dC, dI) vwCl ((fun u : Ms => (wM cs a u)) u) t.heap ∧ va_D A ((fun u : Ms => (wM cs a u)) u)) A) ([.ref (a 0)] : List Value).toArray s 0 0 A) (dC, dI) A (fun u : Ms => (wM cs a u)) res := fun H locs pc ls r u dd h hP hD hS => W.iret hx hb hr (fun t ht hW => ⟨⟨r, u, rfl, by cases h; exact ⟨rfl, rfl⟩, by rw [ht]; exact hP, hD⟩, hS.F ht⟩) hS.2.2 dd
  have hl := lv_entry ([.ref (a 0)]) (n := 1) (Nat.le_of_ble_eq_true rfl)
  rw [lg_entry_eq]
  generalize (lg_sl ([.ref (a 0)]) ++ List.replicate (1 - (lg_sl ([.ref (a 0)])).length) Slot.unset).toArray = ls at hl ⊢
  have hl : lv_has ls 1 [(0, .ref (a 0))] := hl
  unfold f_X8_bad at hf
  refine lv_aload_n hx hb dX8_bad_0 rfl (lv_at hl 0 rfl) ?_
  refine va_get (D := (dC, dI)) (ci := 8) (v := .ref (a 6)) (C := RX8) (T := TX8) (N := 20) hx hb hts in_X8_bad_X8 hown hK hP 0 rfl rfl 5 (by decide) (hts (.fieldLink RX8 26 "BackLoansModel" "refused" "[I") (by decide +kernel)) (fun _ h9 => h9) rfl dX8_bad_1 ?_
  refine lv_iconst (v := 0) hx hb dX8_bad_4 (by decide) ?_
  refine lv_dup2_11 hx hb dX8_bad_5 rfl rfl ?_
  obtain ⟨hi1, hf⟩ := gi_e hf
  refine va_iald hx hb hK hP 6 0 rfl rfl hi1 dX8_bad_6 ?_
  refine lv_iconst (v := 1) hx hb dX8_bad_7 (by decide) ?_
  refine lv_iadd hx hb dX8_bad_8 ?_
  obtain ⟨hi2, hf⟩ := gi_e hf
  refine va_iast hx hb hK hP hD hS 6 0 rfl rfl hi2 dX8_bad_9 (fun H locs hP hD hS => ?_)
  obtain ⟨M_9, hP, hD, hf⟩ := st_nm (ws := fun M_9 : Ms => (wM cs a M_9)) ((M.1, M.2.1, va_up M.2.2 5 (upd (M.2.2 5) ((0 : Int32)).toNatClampNeg ((((M.2.2 5) ((0 : Int32)).toNatClampNeg) + (1 : Int32)))))) hP hD hf
  refine lv_bipush (v := -2) hx hb dX8_bad_10 (by decide) ?_
  exact hR _ _ _ _ _ _ dX8_bad_12 hf hP hD hS

def f_X8_in (x0 : Int32) (x1 : Int32) (x2 : Int32)  : Option Int32 :=
  if x0 < x1 then (
    some (0 : Int32)
  ) else (
    if x2 < x0 then (
      some (0 : Int32)
    ) else (
      some (1 : Int32)
    )
  )
set_option maxHeartbeats 4000000 in
set_option maxRecDepth 100000 in
theorem c_X8_in (l : Launch) (dC : Nat → ClassId) (dI : Nat → Nat → Nat) (cs : Nat → ClassId)  (x0 : Int32) (x1 : Int32) (x2 : Int32) (res : Int32) (hf : f_X8_in x0 x1 x2 = some res) : Met l yX8_in wsX8_in ({ frames := 0, cells := 0, slots := 0, locals := 0 }) (va_Pc [.int (x0), .int (x1), .int (x2)] (fun U => va_P (dC, dI) vwCl ([] : va_W) U.heap ∧ GE dC dI cs U)) (vp_Si (fun r => r = res ∧ narrow .boolean (.int r) = .int r)) 0 0 (fun _ => False) := by
  refine Met.ofW (cc := cX8_in) (maxL := 3) (ret := (some .boolean)) (by decide) rfl ?_
  intro p e s m args below meth c s₁ Bd hml hv
  obtain ⟨rfl, hP, G⟩ := hv
  have hts := atoms_spec (ws := wsX8_in) Bd.pre
  have hown : s.vm.findClass RX8 = some m.cls := findClass_of_methodNamed Bd.named
  have hlocks := Bd.notSynchronized
  have hx := Bd.exec
  have hb := Bd.bytes
  have hr := Bd.returns
  have C : CallFix p m c cX8_in 3 s _ wsX8_in RX8 := ⟨hx, hb, hml, hown, hts⟩
  obtain ⟨hK, hN⟩ := id G
  have hR : RPz p l e ({ frames := 0, cells := 0, slots := 0, locals := 0 }) s m ([.int (x0), .int (x1), .int (x2)] : List Value).toArray below meth c cX8_in (MQ below (vp_Si (fun r => r = res ∧ narrow .boolean (.int r) = .int r)) ([.int (x0), .int (x1), .int (x2)] : List Value).toArray s 0 0 (fun _ => False)) res := fun pc ls r dd hn h => W.zret hx hb hr hn (fun t ht hW => ⟨r, rfl, ⟨Option.some.inj h, hn⟩, ht⟩) (fun q hq => by cases hq) dd
  have hl := lv_entry ([.int (x0), .int (x1), .int (x2)]) (n := 3) (Nat.le_of_ble_eq_true rfl)
  rw [lg_entry_eq]
  generalize (lg_sl ([.int (x0), .int (x1), .int (x2)]) ++ List.replicate (3 - (lg_sl ([.int (x0), .int (x1), .int (x2)])).length) Slot.unset).toArray = ls at hl ⊢
  have hl : lv_has ls 3 [(0, .int (x0)), (1, .int (x1)), (2, .int (x2))] := hl
  unfold f_X8_in at hf
  refine lv_iload_n hx hb dX8_in_0 rfl (lv_at hl 0 rfl) ?_
  refine lv_iload_n hx hb dX8_in_1 rfl (lv_at hl 1 rfl) ?_
  refine lv_icmp_lt (tgt := 14) hx hb dX8_in_2 (by decide) (fun c1 => ?_) (fun c1 => ?_)
  · replace hf := it_t c1 hf
    refine lv_iconst (v := 0) hx hb dX8_in_14 (by decide) ?_
    exact hR _ _ _ dX8_in_15 (by decide) hf
  · replace hf := it_f c1 hf
    refine lv_iload_n hx hb dX8_in_5 rfl (lv_at hl 0 rfl) ?_
    refine lv_iload_n hx hb dX8_in_6 rfl (lv_at hl 2 rfl) ?_
    refine lv_icmp_gt (tgt := 14) hx hb dX8_in_7 (by decide) (fun c2 => ?_) (fun c2 => ?_)
    · replace hf := it_t c2 hf
      refine lv_iconst (v := 0) hx hb dX8_in_14 (by decide) ?_
      exact hR _ _ _ dX8_in_15 (by decide) hf
    · replace hf := it_f c2 hf
      refine lv_iconst (v := 1) hx hb dX8_in_10 (by decide) ?_
      refine lv_goto (tgt := 15) hx hb dX8_in_11 (by decide) ?_
      exact hR _ _ _ dX8_in_15 (by decide) hf

theorem in_X8_chest_X8 : ∀ w ∈ wsX80, w ∈ wsX8_chest := by decide +kernel
def f_X8_chest (x1 : Int32) (M : Ms) : Option (Int32 × Ms) :=
  bn (f_X8_in x1 (0 : Int32) (99999 : Int32)) fun r4 =>
  if r4 = 0 then (
    bn (f_X8_bad M) fun r11 =>
    some (r11.1, r11.2)
  ) else (
    gi ((0 : Int32)) 362 <|
    lett ((M.2.2 0) ((0 : Int32)).toNatClampNeg) fun x2_21 =>
    gi ((0 : Int32)) 362 <|
    lett ((M.1, M.2.1, va_up M.2.2 0 (upd (M.2.2 0) ((0 : Int32)).toNatClampNeg (x1)))) fun M_28 =>
    some (x2_21, M_28)
  )
set_option maxHeartbeats 4000000 in
set_option maxRecDepth 100000 in
theorem c_X8_chest (l : Launch) (dC : Nat → ClassId) (dI : Nat → Nat → Nat) (cs : Nat → ClassId) (a : Nat → Nat) (sz : Nat) (M : Ms) (x1 : Int32) (res : Int32 × Ms) (hf : f_X8_chest x1 M = some res) : Met l yX8_chest wsX8_chest ({ frames := 1, cells := 0, slots := 0, locals := 22 }) (va_Pc [.ref (a 0), .int (x1)] (fun U => U.heap.size = sz ∧ va_P (dC, dI) vwCl (wM cs a M) U.heap ∧ GE dC dI cs U ∧ va_D (fun _ => True) (wM cs a M))) (va_Qi (fun r (u : Ms) => r = res.1 ∧ u = res.2) (fun u t => va_P (dC, dI) vwCl ((fun u : Ms => (wM cs a u)) u) t.heap ∧ va_D (va_A (wM cs a M) sz) ((fun u : Ms => (wM cs a u)) u)) (va_A (wM cs a M) sz)) 0 0 (va_A (wM cs a M) sz) := by
  refine Met.ofW (cc := cX8_chest) (maxL := 3) (ret := (some .int)) (by decide) rfl ?_
  intro p e s m args below meth c s₁ Bd hml hv
  obtain ⟨rfl, hsz, hP, G, hD0⟩ := hv
  have hts := atoms_spec (ws := wsX8_chest) Bd.pre
  have hown : s.vm.findClass RX8 = some m.cls := findClass_of_methodNamed Bd.named
  have hlocks := Bd.notSynchronized
  have hx := Bd.exec
  have hb := Bd.bytes
  have hr := Bd.returns
  have C : CallFix p m c cX8_chest 3 s _ wsX8_chest RX8 := ⟨hx, hb, hml, hown, hts⟩
  obtain ⟨hK, hN⟩ := id G
  subst hsz
  have hD := hD0.self (sz := s.heap.size)
  generalize hAe : va_A (wM cs a M) s.heap.size = A at hD ⊢
  have hA : ∀ q : Nat, s.heap.size ≤ q → A q := fun q h => by rw [← hAe]; exact Or.inr h
  have hS : va_S A s.heap s.heap [] := va_S.rf
  have hR : RTi p l e ({ frames := 1, cells := 0, slots := 0, locals := 22 }) s m ([.ref (a 0), .int (x1)] : List Value).toArray below meth c cX8_chest (MQ below (va_Qi (fun r (u : Ms) => r = res.1 ∧ u = res.2) (fun u t => va_P (dC, dI) vwCl ((fun u : Ms => (wM cs a u)) u) t.heap ∧ va_D A ((fun u : Ms => (wM cs a u)) u)) A) ([.ref (a 0), .int (x1)] : List Value).toArray s 0 0 A) (dC, dI) A (fun u : Ms => (wM cs a u)) res := fun H locs pc ls r u dd h hP hD hS => W.iret hx hb hr (fun t ht hW => ⟨⟨r, u, rfl, by cases h; exact ⟨rfl, rfl⟩, by rw [ht]; exact hP, hD⟩, hS.F ht⟩) hS.2.2 dd
  have hl := lv_entry ([.ref (a 0), .int (x1)]) (n := 3) (Nat.le_of_ble_eq_true rfl)
  rw [lg_entry_eq]
  generalize (lg_sl ([.ref (a 0), .int (x1)]) ++ List.replicate (3 - (lg_sl ([.ref (a 0), .int (x1)])).length) Slot.unset).toArray = ls at hl ⊢
  have hl : lv_has ls 3 [(0, .ref (a 0)), (1, .int (x1))] := hl
  unfold f_X8_chest at hf
  refine lv_iload_n hx hb dX8_chest_0 rfl (lv_at hl 1 rfl) ?_
  refine lv_iconst (v := 0) hx hb dX8_chest_1 (by decide) ?_
  refine lv_ldc (v := 99999) hx hb hown (hts (.constant RX8 56 (99999)) (by decide +kernel)) dX8_chest_2 ?_
  obtain ⟨r4, hr4, hf⟩ := bn_e hf
  have hPc := hP.sub (ws' := ([] : va_W)) [] rfl
  refine vp_callSi (W.runS (As := [.int (x1), .int ((0 : Int32)), .int ((99999 : Int32))]) (rest := []) C (c_X8_in l dC dI cs x1 (0 : Int32) (99999 : Int32) r4 hr4) (va_cwS 3 hts gX8_chest_X8_in rfl rfl rfl (by decide +kernel) ⟨Nat.le_of_ble_eq_true rfl, Nat.le_of_ble_eq_true rfl⟩) ⟨(fun a U g mk q => ⟨q.1, q.2.1, GE.calling q.2.2⟩), (fun U hU hW => ⟨rfl, by rw [hU]; exact hPc, GE.warm hW G⟩)⟩ rfl rfl hl.1 rfl (lv_room (Nat.le_of_ble_eq_true rfl)) dX8_chest_4 ⟨Nat.le_of_ble_eq_true rfl, Nat.le_of_ble_eq_true rfl⟩) (fun qr4 hqr4 => ?_)
  obtain ⟨hqr4, hnr4⟩ := hqr4
  obtain rfl := hqr4.symm
  refine lv_if_ne (tgt := 15) hx hb dX8_chest_7 (by decide) (fun c1 => ?_) (fun c1 => ?_)
  · replace hf := it_f c1 hf
    refine lv_aload_n hx hb dX8_chest_15 rfl (lv_at hl 0 rfl) ?_
    refine va_get (D := (dC, dI)) (ci := 8) (v := .ref (a 1)) (C := RX8) (T := TX8) (N := 20) hx hb hts in_X8_chest_X8 hown hK hP 0 rfl rfl 0 (by decide) (hts (.fieldLink RX8 7 "BackLoansModel" "now" "[I") (by decide +kernel)) (fun _ h9 => h9) rfl dX8_chest_16 ?_
    refine lv_iconst (v := 0) hx hb dX8_chest_19 (by decide) ?_
    obtain ⟨hi2, hf⟩ := gi_e hf
    refine va_iald hx hb hK hP 1 0 rfl rfl hi2 dX8_chest_20 ?_
    refine lv_topi (fun x2_21 ex2_21 => ?_)
    replace hf := lett_s ex2_21 hf
    refine lv_istore_n (lv' := [(2, .int (x2_21)), (0, .ref (a 0)), (1, .int (x1))]) hx hb dX8_chest_21 rfl hl (by decide) rfl (fun ls hl => ?_)
    refine lv_aload_n hx hb dX8_chest_22 rfl (lv_at hl 1 rfl) ?_
    refine va_get (D := (dC, dI)) (ci := 8) (v := .ref (a 1)) (C := RX8) (T := TX8) (N := 20) hx hb hts in_X8_chest_X8 hown hK hP 0 rfl rfl 0 (by decide) (hts (.fieldLink RX8 7 "BackLoansModel" "now" "[I") (by decide +kernel)) (fun _ h9 => h9) rfl dX8_chest_23 ?_
    refine lv_iconst (v := 0) hx hb dX8_chest_26 (by decide) ?_
    refine lv_iload_n hx hb dX8_chest_27 rfl (lv_at hl 2 rfl) ?_
    obtain ⟨hi3, hf⟩ := gi_e hf
    refine va_iast hx hb hK hP hD hS 1 0 rfl rfl hi3 dX8_chest_28 (fun H locs hP hD hS => ?_)
    obtain ⟨M_28, hP, hD, hf⟩ := st_nm (ws := fun M_28 : Ms => (wM cs a M_28)) ((M.1, M.2.1, va_up M.2.2 0 (upd (M.2.2 0) ((0 : Int32)).toNatClampNeg (x1)))) hP hD hf
    refine lv_iload_n hx hb dX8_chest_29 rfl (lv_at hl 0 rfl) ?_
    exact hR _ _ _ _ _ _ dX8_chest_30 hf hP hD hS
  · replace hf := it_t c1 hf
    refine lv_aload_n hx hb dX8_chest_10 rfl (lv_at hl 0 rfl) ?_
    obtain ⟨r11, hr11, hf⟩ := bn_e hf
    have hPc := hP.sub (ws' := (wM cs a M)) [0, 1, 2, 3, 4, 5, 6, 7, 8, 9, 10, 11] rfl
    have hDc := hD.sub (ws' := (wM cs a M)) [0, 1, 2, 3, 4, 5, 6, 7, 8, 9, 10, 11] (by decide) rfl
    have hFc := va_free (wc := (wM cs a M)) hD hS hA [0, 1, 2, 3, 4, 5, 6, 7, 8, 9, 10, 11] rfl
    refine va_calli (va_runV (As := []) (rest := []) C (c_X8_bad l dC dI cs a s.heap.size M r11 hr11) (cwV 0 hts gX8_chest_X8_bad rfl rfl rfl (by decide +kernel) ⟨Nat.le_of_ble_eq_true rfl, Nat.le_of_ble_eq_true rfl⟩) ⟨(fun a U g mk q => ⟨q.1, q.2.1, q.2.2.1, GE.calling q.2.2.2.1, q.2.2.2.2⟩), va_recv hK hPc (ci := 8) (q0 := 0) rfl rfl, (fun U hU hW => ⟨rfl, by rw [hU], by rw [hU]; exact hPc, GE.warm hW G, hDc.weaken (fun _ _ _ _ => trivial)⟩)⟩ rfl rfl hl.1 rfl (lv_room (Nat.le_of_ble_eq_true rfl)) dX8_chest_11 ⟨Nat.le_of_ble_eq_true rfl, Nat.le_of_ble_eq_true rfl⟩) hS (fun q _ h => hFc q h) hFc (fun q u t H1 locs ht hvm hw hB hz1 hk1 hS => ?_)
    obtain ⟨rfl, rfl⟩ := hw
    obtain ⟨hP1, hD1⟩ := hB
    rw [ht] at hP1
    obtain ⟨hP, hD⟩ := va_join (wr := []) (w1 := (wM cs a r11.2)) hP hD [0, 1, 2, 3, 4, 5, 6, 7, 8, 9, 10, 11] [] rfl rfl (by decide) (by decide) hk1 hFc hP1 hD1
    generalize H1 = H at hP hS ⊢
    have hP := hP.sub (ws' := (wM cs a r11.2)) [0, 1, 2, 3, 4, 5, 6, 7, 8, 9, 10, 11] rfl
    have hD := hD.sub (ws' := (wM cs a r11.2)) [0, 1, 2, 3, 4, 5, 6, 7, 8, 9, 10, 11] (by decide) rfl
    exact hR _ _ _ _ _ _ dX8_chest_14 hf hP hD hS

theorem in_X8_rate_X8 : ∀ w ∈ wsX80, w ∈ wsX8_rate := by decide +kernel
def f_X8_rate (x1 : Int32) (M : Ms) : Option (Int32 × Ms) :=
  bn (f_X8_in x1 (0 : Int32) (50 : Int32)) fun r4 =>
  if r4 = 0 then (
    bn (f_X8_bad M) fun r11 =>
    some (r11.1, r11.2)
  ) else (
    gi ((1 : Int32)) 362 <|
    lett ((M.2.2 0) ((1 : Int32)).toNatClampNeg) fun x2_21 =>
    gi ((1 : Int32)) 362 <|
    lett ((M.1, M.2.1, va_up M.2.2 0 (upd (M.2.2 0) ((1 : Int32)).toNatClampNeg (x1)))) fun M_28 =>
    some (x2_21, M_28)
  )
set_option maxHeartbeats 4000000 in
set_option maxRecDepth 100000 in
theorem c_X8_rate (l : Launch) (dC : Nat → ClassId) (dI : Nat → Nat → Nat) (cs : Nat → ClassId) (a : Nat → Nat) (sz : Nat) (M : Ms) (x1 : Int32) (res : Int32 × Ms) (hf : f_X8_rate x1 M = some res) : Met l yX8_rate wsX8_rate ({ frames := 1, cells := 0, slots := 0, locals := 22 }) (va_Pc [.ref (a 0), .int (x1)] (fun U => U.heap.size = sz ∧ va_P (dC, dI) vwCl (wM cs a M) U.heap ∧ GE dC dI cs U ∧ va_D (fun _ => True) (wM cs a M))) (va_Qi (fun r (u : Ms) => r = res.1 ∧ u = res.2) (fun u t => va_P (dC, dI) vwCl ((fun u : Ms => (wM cs a u)) u) t.heap ∧ va_D (va_A (wM cs a M) sz) ((fun u : Ms => (wM cs a u)) u)) (va_A (wM cs a M) sz)) 0 0 (va_A (wM cs a M) sz) := by
  refine Met.ofW (cc := cX8_rate) (maxL := 3) (ret := (some .int)) (by decide) rfl ?_
  intro p e s m args below meth c s₁ Bd hml hv
  obtain ⟨rfl, hsz, hP, G, hD0⟩ := hv
  have hts := atoms_spec (ws := wsX8_rate) Bd.pre
  have hown : s.vm.findClass RX8 = some m.cls := findClass_of_methodNamed Bd.named
  have hlocks := Bd.notSynchronized
  have hx := Bd.exec
  have hb := Bd.bytes
  have hr := Bd.returns
  have C : CallFix p m c cX8_rate 3 s _ wsX8_rate RX8 := ⟨hx, hb, hml, hown, hts⟩
  obtain ⟨hK, hN⟩ := id G
  subst hsz
  have hD := hD0.self (sz := s.heap.size)
  generalize hAe : va_A (wM cs a M) s.heap.size = A at hD ⊢
  have hA : ∀ q : Nat, s.heap.size ≤ q → A q := fun q h => by rw [← hAe]; exact Or.inr h
  have hS : va_S A s.heap s.heap [] := va_S.rf
  have hR : RTi p l e ({ frames := 1, cells := 0, slots := 0, locals := 22 }) s m ([.ref (a 0), .int (x1)] : List Value).toArray below meth c cX8_rate (MQ below (va_Qi (fun r (u : Ms) => r = res.1 ∧ u = res.2) (fun u t => va_P (dC, dI) vwCl ((fun u : Ms => (wM cs a u)) u) t.heap ∧ va_D A ((fun u : Ms => (wM cs a u)) u)) A) ([.ref (a 0), .int (x1)] : List Value).toArray s 0 0 A) (dC, dI) A (fun u : Ms => (wM cs a u)) res := fun H locs pc ls r u dd h hP hD hS => W.iret hx hb hr (fun t ht hW => ⟨⟨r, u, rfl, by cases h; exact ⟨rfl, rfl⟩, by rw [ht]; exact hP, hD⟩, hS.F ht⟩) hS.2.2 dd
  have hl := lv_entry ([.ref (a 0), .int (x1)]) (n := 3) (Nat.le_of_ble_eq_true rfl)
  rw [lg_entry_eq]
  generalize (lg_sl ([.ref (a 0), .int (x1)]) ++ List.replicate (3 - (lg_sl ([.ref (a 0), .int (x1)])).length) Slot.unset).toArray = ls at hl ⊢
  have hl : lv_has ls 3 [(0, .ref (a 0)), (1, .int (x1))] := hl
  unfold f_X8_rate at hf
  refine lv_iload_n hx hb dX8_rate_0 rfl (lv_at hl 1 rfl) ?_
  refine lv_iconst (v := 0) hx hb dX8_rate_1 (by decide) ?_
  refine lv_bipush (v := 50) hx hb dX8_rate_2 (by decide) ?_
  obtain ⟨r4, hr4, hf⟩ := bn_e hf
  have hPc := hP.sub (ws' := ([] : va_W)) [] rfl
  refine vp_callSi (W.runS (As := [.int (x1), .int ((0 : Int32)), .int ((50 : Int32))]) (rest := []) C (c_X8_in l dC dI cs x1 (0 : Int32) (50 : Int32) r4 hr4) (va_cwS 3 hts gX8_rate_X8_in rfl rfl rfl (by decide +kernel) ⟨Nat.le_of_ble_eq_true rfl, Nat.le_of_ble_eq_true rfl⟩) ⟨(fun a U g mk q => ⟨q.1, q.2.1, GE.calling q.2.2⟩), (fun U hU hW => ⟨rfl, by rw [hU]; exact hPc, GE.warm hW G⟩)⟩ rfl rfl hl.1 rfl (lv_room (Nat.le_of_ble_eq_true rfl)) dX8_rate_4 ⟨Nat.le_of_ble_eq_true rfl, Nat.le_of_ble_eq_true rfl⟩) (fun qr4 hqr4 => ?_)
  obtain ⟨hqr4, hnr4⟩ := hqr4
  obtain rfl := hqr4.symm
  refine lv_if_ne (tgt := 15) hx hb dX8_rate_7 (by decide) (fun c1 => ?_) (fun c1 => ?_)
  · replace hf := it_f c1 hf
    refine lv_aload_n hx hb dX8_rate_15 rfl (lv_at hl 0 rfl) ?_
    refine va_get (D := (dC, dI)) (ci := 8) (v := .ref (a 1)) (C := RX8) (T := TX8) (N := 20) hx hb hts in_X8_rate_X8 hown hK hP 0 rfl rfl 0 (by decide) (hts (.fieldLink RX8 7 "BackLoansModel" "now" "[I") (by decide +kernel)) (fun _ h9 => h9) rfl dX8_rate_16 ?_
    refine lv_iconst (v := 1) hx hb dX8_rate_19 (by decide) ?_
    obtain ⟨hi2, hf⟩ := gi_e hf
    refine va_iald hx hb hK hP 1 0 rfl rfl hi2 dX8_rate_20 ?_
    refine lv_topi (fun x2_21 ex2_21 => ?_)
    replace hf := lett_s ex2_21 hf
    refine lv_istore_n (lv' := [(2, .int (x2_21)), (0, .ref (a 0)), (1, .int (x1))]) hx hb dX8_rate_21 rfl hl (by decide) rfl (fun ls hl => ?_)
    refine lv_aload_n hx hb dX8_rate_22 rfl (lv_at hl 1 rfl) ?_
    refine va_get (D := (dC, dI)) (ci := 8) (v := .ref (a 1)) (C := RX8) (T := TX8) (N := 20) hx hb hts in_X8_rate_X8 hown hK hP 0 rfl rfl 0 (by decide) (hts (.fieldLink RX8 7 "BackLoansModel" "now" "[I") (by decide +kernel)) (fun _ h9 => h9) rfl dX8_rate_23 ?_
    refine lv_iconst (v := 1) hx hb dX8_rate_26 (by decide) ?_
    refine lv_iload_n hx hb dX8_rate_27 rfl (lv_at hl 2 rfl) ?_
    obtain ⟨hi3, hf⟩ := gi_e hf
    refine va_iast hx hb hK hP hD hS 1 0 rfl rfl hi3 dX8_rate_28 (fun H locs hP hD hS => ?_)
    obtain ⟨M_28, hP, hD, hf⟩ := st_nm (ws := fun M_28 : Ms => (wM cs a M_28)) ((M.1, M.2.1, va_up M.2.2 0 (upd (M.2.2 0) ((1 : Int32)).toNatClampNeg (x1)))) hP hD hf
    refine lv_iload_n hx hb dX8_rate_29 rfl (lv_at hl 0 rfl) ?_
    exact hR _ _ _ _ _ _ dX8_rate_30 hf hP hD hS
  · replace hf := it_t c1 hf
    refine lv_aload_n hx hb dX8_rate_10 rfl (lv_at hl 0 rfl) ?_
    obtain ⟨r11, hr11, hf⟩ := bn_e hf
    have hPc := hP.sub (ws' := (wM cs a M)) [0, 1, 2, 3, 4, 5, 6, 7, 8, 9, 10, 11] rfl
    have hDc := hD.sub (ws' := (wM cs a M)) [0, 1, 2, 3, 4, 5, 6, 7, 8, 9, 10, 11] (by decide) rfl
    have hFc := va_free (wc := (wM cs a M)) hD hS hA [0, 1, 2, 3, 4, 5, 6, 7, 8, 9, 10, 11] rfl
    refine va_calli (va_runV (As := []) (rest := []) C (c_X8_bad l dC dI cs a s.heap.size M r11 hr11) (cwV 0 hts gX8_rate_X8_bad rfl rfl rfl (by decide +kernel) ⟨Nat.le_of_ble_eq_true rfl, Nat.le_of_ble_eq_true rfl⟩) ⟨(fun a U g mk q => ⟨q.1, q.2.1, q.2.2.1, GE.calling q.2.2.2.1, q.2.2.2.2⟩), va_recv hK hPc (ci := 8) (q0 := 0) rfl rfl, (fun U hU hW => ⟨rfl, by rw [hU], by rw [hU]; exact hPc, GE.warm hW G, hDc.weaken (fun _ _ _ _ => trivial)⟩)⟩ rfl rfl hl.1 rfl (lv_room (Nat.le_of_ble_eq_true rfl)) dX8_rate_11 ⟨Nat.le_of_ble_eq_true rfl, Nat.le_of_ble_eq_true rfl⟩) hS (fun q _ h => hFc q h) hFc (fun q u t H1 locs ht hvm hw hB hz1 hk1 hS => ?_)
    obtain ⟨rfl, rfl⟩ := hw
    obtain ⟨hP1, hD1⟩ := hB
    rw [ht] at hP1
    obtain ⟨hP, hD⟩ := va_join (wr := []) (w1 := (wM cs a r11.2)) hP hD [0, 1, 2, 3, 4, 5, 6, 7, 8, 9, 10, 11] [] rfl rfl (by decide) (by decide) hk1 hFc hP1 hD1
    generalize H1 = H at hP hS ⊢
    have hP := hP.sub (ws' := (wM cs a r11.2)) [0, 1, 2, 3, 4, 5, 6, 7, 8, 9, 10, 11] rfl
    have hD := hD.sub (ws' := (wM cs a r11.2)) [0, 1, 2, 3, 4, 5, 6, 7, 8, 9, 10, 11] (by decide) rfl
    exact hR _ _ _ _ _ _ dX8_rate_14 hf hP hD hS

def f_X8_addPerson (x1 : Int32) (x2 : Int32) (x3 : Int32) (tt : Nat → Int32) : Option ((Nat → Int32)) :=
  gi ((3 : Int32)) 362 <|
  lett ((8 : Int32) + ((3 : Int32) * (tt ((3 : Int32)).toNatClampNeg))) fun x4_8 =>
  gi (x4_8) 362 <|
  lett (upd tt (x4_8).toNatClampNeg (x1)) fun tt_14 =>
  gi ((x4_8 + (1 : Int32))) 362 <|
  lett (upd tt_14 ((x4_8 + (1 : Int32))).toNatClampNeg (x2)) fun tt_21 =>
  gi ((x4_8 + (2 : Int32))) 362 <|
  lett (upd tt_21 ((x4_8 + (2 : Int32))).toNatClampNeg (x3)) fun tt_28 =>
  gi ((3 : Int32)) 362 <|
  gi ((3 : Int32)) 362 <|
  lett (upd tt_28 ((3 : Int32)).toNatClampNeg (((tt_28 ((3 : Int32)).toNatClampNeg) + (1 : Int32)))) fun tt_35 =>
  some tt_35
set_option maxHeartbeats 4000000 in
set_option maxRecDepth 100000 in
theorem c_X8_addPerson (l : Launch) (dC : Nat → ClassId) (dI : Nat → Nat → Nat) (cs : Nat → ClassId) (a : Nat) (sz : Nat) (tt : Nat → Int32) (x1 : Int32) (x2 : Int32) (x3 : Int32) (res : (Nat → Int32)) (hf : f_X8_addPerson x1 x2 x3 tt = some res) : Met l yX8_addPerson wsX8_addPerson ({ frames := 0, cells := 0, slots := 0, locals := 0 }) (va_Pc [.ref a, .int (x1), .int (x2), .int (x3)] (fun U => U.heap.size = sz ∧ va_P (dC, dI) vwCl (wA cs a 362 tt) U.heap ∧ GE dC dI cs U ∧ va_D (fun _ => True) (wA cs a 362 tt))) (va_Qv (fun u : (Nat → Int32) => u = res) (fun u t => va_P (dC, dI) vwCl ((fun u : (Nat → Int32) => (wA cs a 362 u)) u) t.heap ∧ va_D (va_A (wA cs a 362 tt) sz) ((fun u : (Nat → Int32) => (wA cs a 362 u)) u)) (va_A (wA cs a 362 tt) sz)) 0 0 (va_A (wA cs a 362 tt) sz) := by
  refine Met.ofW (cc := cX8_addPerson) (maxL := 5) (ret := none) (by decide) rfl ?_
  intro p e s m args below meth c s₁ Bd hml hv
  obtain ⟨rfl, hsz, hP, G, hD0⟩ := hv
  have hts := atoms_spec (ws := wsX8_addPerson) Bd.pre
  have hown : s.vm.findClass RX8 = some m.cls := findClass_of_methodNamed Bd.named
  have hlocks := Bd.notSynchronized
  have hx := Bd.exec
  have hb := Bd.bytes
  have hr := Bd.returns
  have C : CallFix p m c cX8_addPerson 5 s _ wsX8_addPerson RX8 := ⟨hx, hb, hml, hown, hts⟩
  obtain ⟨hK, hN⟩ := id G
  subst hsz
  have hD := hD0.self (sz := s.heap.size)
  generalize hAe : va_A (wA cs a 362 tt) s.heap.size = A at hD ⊢
  have hA : ∀ q : Nat, s.heap.size ≤ q → A q := fun q h => by rw [← hAe]; exact Or.inr h
  have hS : va_S A s.heap s.heap [] := va_S.rf
  have hR : RTv p l e ({ frames := 0, cells := 0, slots := 0, locals := 0 }) s m ([.ref a, .int (x1), .int (x2), .int (x3)] : List Value).toArray below meth c cX8_addPerson (MQ below (va_Qv (fun u : (Nat → Int32) => u = res) (fun u t => va_P (dC, dI) vwCl ((fun u : (Nat → Int32) => (wA cs a 362 u)) u) t.heap ∧ va_D A ((fun u : (Nat → Int32) => (wA cs a 362 u)) u)) A) ([.ref a, .int (x1), .int (x2), .int (x3)] : List Value).toArray s 0 0 A) (dC, dI) A (fun u : (Nat → Int32) => (wA cs a 362 u)) res := fun H locs pc ls u dd h hP hD hS => W.vret hx hb hr (fun t ht hW => ⟨⟨u, rfl, by cases h; rfl, by rw [ht]; exact hP, hD⟩, hS.F ht⟩) hS.2.2 dd
  have hl := lv_entry ([.ref a, .int (x1), .int (x2), .int (x3)]) (n := 5) (Nat.le_of_ble_eq_true rfl)
  rw [lg_entry_eq]
  generalize (lg_sl ([.ref a, .int (x1), .int (x2), .int (x3)]) ++ List.replicate (5 - (lg_sl ([.ref a, .int (x1), .int (x2), .int (x3)])).length) Slot.unset).toArray = ls at hl ⊢
  have hl : lv_has ls 5 [(0, .ref a), (1, .int (x1)), (2, .int (x2)), (3, .int (x3))] := hl
  unfold f_X8_addPerson at hf
  refine lv_bipush (v := 8) hx hb dX8_addPerson_0 (by decide) ?_
  refine lv_iconst (v := 3) hx hb dX8_addPerson_2 (by decide) ?_
  refine lv_aload_n hx hb dX8_addPerson_3 rfl (lv_at hl 0 rfl) ?_
  refine lv_iconst (v := 3) hx hb dX8_addPerson_4 (by decide) ?_
  obtain ⟨hi1, hf⟩ := gi_e hf
  refine va_iald hx hb hK hP 0 0 rfl rfl hi1 dX8_addPerson_5 ?_
  refine lv_imul hx hb dX8_addPerson_6 ?_
  refine lv_iadd hx hb dX8_addPerson_7 ?_
  refine lv_topi (fun x4_8 ex4_8 => ?_)
  replace hf := lett_s ex4_8 hf
  refine lv_istore (lv' := [(4, .int (x4_8)), (0, .ref a), (1, .int (x1)), (2, .int (x2)), (3, .int (x3))]) hx hb dX8_addPerson_8 hl (by decide) rfl (fun ls hl => ?_)
  refine lv_aload_n hx hb dX8_addPerson_10 rfl (lv_at hl 1 rfl) ?_
  refine lv_iload hx hb dX8_addPerson_11 (lv_at hl 0 rfl) ?_
  refine lv_iload_n hx hb dX8_addPerson_13 rfl (lv_at hl 2 rfl) ?_
  obtain ⟨hi2, hf⟩ := gi_e hf
  refine va_iast hx hb hK hP hD hS 0 0 rfl rfl hi2 dX8_addPerson_14 (fun H locs hP hD hS => ?_)
  obtain ⟨tt_14, hP, hD, hf⟩ := st_nm (ws := fun tt_14 : Nat → Int32 => (wA cs a 362 tt_14)) (upd tt (x4_8).toNatClampNeg (x1)) hP hD hf
  refine lv_aload_n hx hb dX8_addPerson_15 rfl (lv_at hl 1 rfl) ?_
  refine lv_iload hx hb dX8_addPerson_16 (lv_at hl 0 rfl) ?_
  refine lv_iconst (v := 1) hx hb dX8_addPerson_18 (by decide) ?_
  refine lv_iadd hx hb dX8_addPerson_19 ?_
  refine lv_iload_n hx hb dX8_addPerson_20 rfl (lv_at hl 3 rfl) ?_
  obtain ⟨hi3, hf⟩ := gi_e hf
  refine va_iast hx hb hK hP hD hS 0 0 rfl rfl hi3 dX8_addPerson_21 (fun H locs hP hD hS => ?_)
  obtain ⟨tt_21, hP, hD, hf⟩ := st_nm (ws := fun tt_21 : Nat → Int32 => (wA cs a 362 tt_21)) (upd tt_14 ((x4_8 + (1 : Int32))).toNatClampNeg (x2)) hP hD hf
  refine lv_aload_n hx hb dX8_addPerson_22 rfl (lv_at hl 1 rfl) ?_
  refine lv_iload hx hb dX8_addPerson_23 (lv_at hl 0 rfl) ?_
  refine lv_iconst (v := 2) hx hb dX8_addPerson_25 (by decide) ?_
  refine lv_iadd hx hb dX8_addPerson_26 ?_
  refine lv_iload_n hx hb dX8_addPerson_27 rfl (lv_at hl 4 rfl) ?_
  obtain ⟨hi4, hf⟩ := gi_e hf
  refine va_iast hx hb hK hP hD hS 0 0 rfl rfl hi4 dX8_addPerson_28 (fun H locs hP hD hS => ?_)
  obtain ⟨tt_28, hP, hD, hf⟩ := st_nm (ws := fun tt_28 : Nat → Int32 => (wA cs a 362 tt_28)) (upd tt_21 ((x4_8 + (2 : Int32))).toNatClampNeg (x3)) hP hD hf
  refine lv_aload_n hx hb dX8_addPerson_29 rfl (lv_at hl 1 rfl) ?_
  refine lv_iconst (v := 3) hx hb dX8_addPerson_30 (by decide) ?_
  refine lv_dup2_11 hx hb dX8_addPerson_31 rfl rfl ?_
  obtain ⟨hi5, hf⟩ := gi_e hf
  refine va_iald hx hb hK hP 0 0 rfl rfl hi5 dX8_addPerson_32 ?_
  refine lv_iconst (v := 1) hx hb dX8_addPerson_33 (by decide) ?_
  refine lv_iadd hx hb dX8_addPerson_34 ?_
  obtain ⟨hi6, hf⟩ := gi_e hf
  refine va_iast hx hb hK hP hD hS 0 0 rfl rfl hi6 dX8_addPerson_35 (fun H locs hP hD hS => ?_)
  obtain ⟨tt_35, hP, hD, hf⟩ := st_nm (ws := fun tt_35 : Nat → Int32 => (wA cs a 362 tt_35)) (upd tt_28 ((3 : Int32)).toNatClampNeg (((tt_28 ((3 : Int32)).toNatClampNeg) + (1 : Int32)))) hP hD hf
  exact hR _ _ _ _ _ dX8_addPerson_36 hf hP hD hS

theorem in_X8_full_X8 : ∀ w ∈ wsX80, w ∈ wsX8_full := by decide +kernel
def f_X8_full  (M : Ms) : Option (Int32 × Ms) :=
  gi ((2 : Int32)) 3 <|
  gi ((2 : Int32)) 3 <|
  lett ((M.1, M.2.1, va_up M.2.2 5 (upd (M.2.2 5) ((2 : Int32)).toNatClampNeg ((((M.2.2 5) ((2 : Int32)).toNatClampNeg) + (1 : Int32)))))) fun M_9 =>
  some ((-4 : Int32), M_9)
set_option maxHeartbeats 4000000 in
set_option maxRecDepth 100000 in
theorem c_X8_full (l : Launch) (dC : Nat → ClassId) (dI : Nat → Nat → Nat) (cs : Nat → ClassId) (a : Nat → Nat) (sz : Nat) (M : Ms)  (res : Int32 × Ms) (hf : f_X8_full M = some res) : Met l yX8_full wsX8_full ({ frames := 0, cells := 0, slots := 0, locals := 0 }) (va_Pc [.ref (a 0)] (fun U => U.heap.size = sz ∧ va_P (dC, dI) vwCl (wM cs a M) U.heap ∧ GE dC dI cs U ∧ va_D (fun _ => True) (wM cs a M))) (va_Qi (fun r (u : Ms) => r = res.1 ∧ u = res.2) (fun u t => va_P (dC, dI) vwCl ((fun u : Ms => (wM cs a u)) u) t.heap ∧ va_D (va_A (wM cs a M) sz) ((fun u : Ms => (wM cs a u)) u)) (va_A (wM cs a M) sz)) 0 0 (va_A (wM cs a M) sz) := by
  refine Met.ofW (cc := cX8_full) (maxL := 1) (ret := (some .int)) (by decide) rfl ?_
  intro p e s m args below meth c s₁ Bd hml hv
  obtain ⟨rfl, hsz, hP, G, hD0⟩ := hv
  have hts := atoms_spec (ws := wsX8_full) Bd.pre
  have hown : s.vm.findClass RX8 = some m.cls := findClass_of_methodNamed Bd.named
  have hlocks := Bd.notSynchronized
  have hx := Bd.exec
  have hb := Bd.bytes
  have hr := Bd.returns
  have C : CallFix p m c cX8_full 1 s _ wsX8_full RX8 := ⟨hx, hb, hml, hown, hts⟩
  obtain ⟨hK, hN⟩ := id G
  subst hsz
  have hD := hD0.self (sz := s.heap.size)
  generalize hAe : va_A (wM cs a M) s.heap.size = A at hD ⊢
  have hA : ∀ q : Nat, s.heap.size ≤ q → A q := fun q h => by rw [← hAe]; exact Or.inr h
  have hS : va_S A s.heap s.heap [] := va_S.rf
  have hR : RTi p l e ({ frames := 0, cells := 0, slots := 0, locals := 0 }) s m ([.ref (a 0)] : List Value).toArray below meth c cX8_full (MQ below (va_Qi (fun r (u : Ms) => r = res.1 ∧ u = res.2) (fun u t => va_P (dC, dI) vwCl ((fun u : Ms => (wM cs a u)) u) t.heap ∧ va_D A ((fun u : Ms => (wM cs a u)) u)) A) ([.ref (a 0)] : List Value).toArray s 0 0 A) (dC, dI) A (fun u : Ms => (wM cs a u)) res := fun H locs pc ls r u dd h hP hD hS => W.iret hx hb hr (fun t ht hW => ⟨⟨r, u, rfl, by cases h; exact ⟨rfl, rfl⟩, by rw [ht]; exact hP, hD⟩, hS.F ht⟩) hS.2.2 dd
  have hl := lv_entry ([.ref (a 0)]) (n := 1) (Nat.le_of_ble_eq_true rfl)
  rw [lg_entry_eq]
  generalize (lg_sl ([.ref (a 0)]) ++ List.replicate (1 - (lg_sl ([.ref (a 0)])).length) Slot.unset).toArray = ls at hl ⊢
  have hl : lv_has ls 1 [(0, .ref (a 0))] := hl
  unfold f_X8_full at hf
  refine lv_aload_n hx hb dX8_full_0 rfl (lv_at hl 0 rfl) ?_
  refine va_get (D := (dC, dI)) (ci := 8) (v := .ref (a 6)) (C := RX8) (T := TX8) (N := 20) hx hb hts in_X8_full_X8 hown hK hP 0 rfl rfl 5 (by decide) (hts (.fieldLink RX8 26 "BackLoansModel" "refused" "[I") (by decide +kernel)) (fun _ h9 => h9) rfl dX8_full_1 ?_
  refine lv_iconst (v := 2) hx hb dX8_full_4 (by decide) ?_
  refine lv_dup2_11 hx hb dX8_full_5 rfl rfl ?_
  obtain ⟨hi1, hf⟩ := gi_e hf
  refine va_iald hx hb hK hP 6 0 rfl rfl hi1 dX8_full_6 ?_
  refine lv_iconst (v := 1) hx hb dX8_full_7 (by decide) ?_
  refine lv_iadd hx hb dX8_full_8 ?_
  obtain ⟨hi2, hf⟩ := gi_e hf
  refine va_iast hx hb hK hP hD hS 6 0 rfl rfl hi2 dX8_full_9 (fun H locs hP hD hS => ?_)
  obtain ⟨M_9, hP, hD, hf⟩ := st_nm (ws := fun M_9 : Ms => (wM cs a M_9)) ((M.1, M.2.1, va_up M.2.2 5 (upd (M.2.2 5) ((2 : Int32)).toNatClampNeg ((((M.2.2 5) ((2 : Int32)).toNatClampNeg) + (1 : Int32)))))) hP hD hf
  refine lv_bipush (v := -4) hx hb dX8_full_10 (by decide) ?_
  exact hR _ _ _ _ _ _ dX8_full_12 hf hP hD hS

theorem in_X8_person_X8 : ∀ w ∈ wsX80, w ∈ wsX8_person := by decide +kernel
def f_X8_person_30 (M : Ms)  : Option (Int32 × Ms) :=
  bn (f_X8_bad M) fun r31 =>
  some (r31.1, r31.2)
set_option maxHeartbeats 4000000 in
set_option maxRecDepth 100000 in
theorem b_X8_person_30 {p : Program} {l : Launch} {e : Env} {s : State} {m : MethodId} {args : Array Value} {below : List Frame} {meth : Method} {c : Code} {Q : State → Prop} {dC : Nat → ClassId} {dI : Nat → Nat → Nat} {cs : Nat → ClassId} {A : Nat → Prop} {a : Nat → Nat} {res : Int32 × Ms} (C : CallFix p m c cX8_person 4 s args wsX8_person RX8) (G : GE dC dI cs s) (hA : ∀ q : Nat, s.heap.size ≤ q → A q) (hR : RTi p l e ({ frames := 1, cells := 0, slots := 0, locals := 24 }) s m args below meth c cX8_person Q (dC, dI) A (fun u : Ms => (wM cs a u)) res) (M : Ms)   (H : Heap) (locs : List Loc) (ls : Array Slot) (hl : lv_has ls 4 [(0, .ref (a 0))]) (hP : va_P (dC, dI) vwCl (wM cs a M) H) (hD : va_D A (wM cs a M)) (hS : va_S A s.heap H locs) (hf : f_X8_person_30 M = some res) : W p l e ({ frames := 1, cells := 0, slots := 0, locals := 24 }) s m args below meth c H locs 0 0 Q (F0 m 30 ls []) := by
  obtain ⟨hx, hb, hml, hown, hts⟩ := id C
  obtain ⟨hK, hN⟩ := id G
  unfold f_X8_person_30 at hf
  refine lv_aload_n hx hb dX8_person_30 rfl (lv_at hl 0 rfl) ?_
  obtain ⟨r31, hr31, hf⟩ := bn_e hf
  have hPc := hP.sub (ws' := (wM cs a M)) [0, 1, 2, 3, 4, 5, 6, 7, 8, 9, 10, 11] rfl
  have hDc := hD.sub (ws' := (wM cs a M)) [0, 1, 2, 3, 4, 5, 6, 7, 8, 9, 10, 11] (by decide) rfl
  have hFc := va_free (wc := (wM cs a M)) hD hS hA [0, 1, 2, 3, 4, 5, 6, 7, 8, 9, 10, 11] rfl
  refine va_calli (va_runV (As := []) (rest := []) C (c_X8_bad l dC dI cs a H.size M r31 hr31) (cwV 0 hts gX8_person_X8_bad rfl rfl rfl (by decide +kernel) ⟨Nat.le_of_ble_eq_true rfl, Nat.le_of_ble_eq_true rfl⟩) ⟨(fun a U g mk q => ⟨q.1, q.2.1, q.2.2.1, GE.calling q.2.2.2.1, q.2.2.2.2⟩), va_recv hK hPc (ci := 8) (q0 := 0) rfl rfl, (fun U hU hW => ⟨rfl, by rw [hU], by rw [hU]; exact hPc, GE.warm hW G, hDc.weaken (fun _ _ _ _ => trivial)⟩)⟩ rfl rfl hl.1 rfl (lv_room (Nat.le_of_ble_eq_true rfl)) dX8_person_31 ⟨Nat.le_of_ble_eq_true rfl, Nat.le_of_ble_eq_true rfl⟩) hS (fun q _ h => hFc q h) hFc (fun q u t H1 locs ht hvm hw hB hz1 hk1 hS => ?_)
  obtain ⟨rfl, rfl⟩ := hw
  obtain ⟨hP1, hD1⟩ := hB
  rw [ht] at hP1
  obtain ⟨hP, hD⟩ := va_join (wr := []) (w1 := (wM cs a r31.2)) hP hD [0, 1, 2, 3, 4, 5, 6, 7, 8, 9, 10, 11] [] rfl rfl (by decide) (by decide) hk1 hFc hP1 hD1
  generalize H1 = H at hP hS ⊢
  have hP := hP.sub (ws' := (wM cs a r31.2)) [0, 1, 2, 3, 4, 5, 6, 7, 8, 9, 10, 11] rfl
  have hD := hD.sub (ws' := (wM cs a r31.2)) [0, 1, 2, 3, 4, 5, 6, 7, 8, 9, 10, 11] (by decide) rfl
  exact hR _ _ _ _ _ _ dX8_person_34 hf hP hD hS
def f_X8_person (x1 : Int32) (x2 : Int32) (x3 : Int32) (M : Ms) : Option (Int32 × Ms) :=
  bn (f_X8_in x1 (0 : Int32) (5 : Int32)) fun r3 =>
  if r3 = 0 then (
    f_X8_person_30 M
  ) else (
    bn (f_X8_in x2 (0 : Int32) (99 : Int32)) fun r13 =>
    if r13 = 0 then (
      f_X8_person_30 M
    ) else (
      bn (f_X8_in x3 (0 : Int32) (9999 : Int32)) fun r24 =>
      if r24 = 0 then (
        f_X8_person_30 M
      ) else (
        gi ((3 : Int32)) 362 <|
        if ((M.2.2 0) ((3 : Int32)).toNatClampNeg) = (6 : Int32) then (
          bn (f_X8_full M) fun r47 =>
          some (r47.1, r47.2)
        ) else (
          bn (f_X8_addPerson x1 x2 x3 (M.2.2 0)) fun r58 =>
          lett ((M.1, M.2.1, va_up M.2.2 0 (r58))) fun M_58 =>
          gi ((3 : Int32)) 362 <|
          some ((((M_58.2.2 0) ((3 : Int32)).toNatClampNeg) - (1 : Int32)), M_58)
        )
      )
    )
  )
set_option maxHeartbeats 4000000 in
set_option maxRecDepth 100000 in
theorem c_X8_person (l : Launch) (dC : Nat → ClassId) (dI : Nat → Nat → Nat) (cs : Nat → ClassId) (a : Nat → Nat) (sz : Nat) (M : Ms) (x1 : Int32) (x2 : Int32) (x3 : Int32) (res : Int32 × Ms) (hf : f_X8_person x1 x2 x3 M = some res) : Met l yX8_person wsX8_person ({ frames := 1, cells := 0, slots := 0, locals := 24 }) (va_Pc [.ref (a 0), .int (x1), .int (x2), .int (x3)] (fun U => U.heap.size = sz ∧ va_P (dC, dI) vwCl (wM cs a M) U.heap ∧ GE dC dI cs U ∧ va_D (fun _ => True) (wM cs a M))) (va_Qi (fun r (u : Ms) => r = res.1 ∧ u = res.2) (fun u t => va_P (dC, dI) vwCl ((fun u : Ms => (wM cs a u)) u) t.heap ∧ va_D (va_A (wM cs a M) sz) ((fun u : Ms => (wM cs a u)) u)) (va_A (wM cs a M) sz)) 0 0 (va_A (wM cs a M) sz) := by
  refine Met.ofW (cc := cX8_person) (maxL := 4) (ret := (some .int)) (by decide) rfl ?_
  intro p e s m args below meth c s₁ Bd hml hv
  obtain ⟨rfl, hsz, hP, G, hD0⟩ := hv
  have hts := atoms_spec (ws := wsX8_person) Bd.pre
  have hown : s.vm.findClass RX8 = some m.cls := findClass_of_methodNamed Bd.named
  have hlocks := Bd.notSynchronized
  have hx := Bd.exec
  have hb := Bd.bytes
  have hr := Bd.returns
  have C : CallFix p m c cX8_person 4 s _ wsX8_person RX8 := ⟨hx, hb, hml, hown, hts⟩
  obtain ⟨hK, hN⟩ := id G
  subst hsz
  have hD := hD0.self (sz := s.heap.size)
  generalize hAe : va_A (wM cs a M) s.heap.size = A at hD ⊢
  have hA : ∀ q : Nat, s.heap.size ≤ q → A q := fun q h => by rw [← hAe]; exact Or.inr h
  have hS : va_S A s.heap s.heap [] := va_S.rf
  have hR : RTi p l e ({ frames := 1, cells := 0, slots := 0, locals := 24 }) s m ([.ref (a 0), .int (x1), .int (x2), .int (x3)] : List Value).toArray below meth c cX8_person (MQ below (va_Qi (fun r (u : Ms) => r = res.1 ∧ u = res.2) (fun u t => va_P (dC, dI) vwCl ((fun u : Ms => (wM cs a u)) u) t.heap ∧ va_D A ((fun u : Ms => (wM cs a u)) u)) A) ([.ref (a 0), .int (x1), .int (x2), .int (x3)] : List Value).toArray s 0 0 A) (dC, dI) A (fun u : Ms => (wM cs a u)) res := fun H locs pc ls r u dd h hP hD hS => W.iret hx hb hr (fun t ht hW => ⟨⟨r, u, rfl, by cases h; exact ⟨rfl, rfl⟩, by rw [ht]; exact hP, hD⟩, hS.F ht⟩) hS.2.2 dd
  have hl := lv_entry ([.ref (a 0), .int (x1), .int (x2), .int (x3)]) (n := 4) (Nat.le_of_ble_eq_true rfl)
  rw [lg_entry_eq]
  generalize (lg_sl ([.ref (a 0), .int (x1), .int (x2), .int (x3)]) ++ List.replicate (4 - (lg_sl ([.ref (a 0), .int (x1), .int (x2), .int (x3)])).length) Slot.unset).toArray = ls at hl ⊢
  have hl : lv_has ls 4 [(0, .ref (a 0)), (1, .int (x1)), (2, .int (x2)), (3, .int (x3))] := hl
  unfold f_X8_person at hf
  refine lv_iload_n hx hb dX8_person_0 rfl (lv_at hl 1 rfl) ?_
  refine lv_iconst (v := 0) hx hb dX8_person_1 (by decide) ?_
  refine lv_iconst (v := 5) hx hb dX8_person_2 (by decide) ?_
  obtain ⟨r3, hr3, hf⟩ := bn_e hf
  have hPc := hP.sub (ws' := ([] : va_W)) [] rfl
  refine vp_callSi (W.runS (As := [.int (x1), .int ((0 : Int32)), .int ((5 : Int32))]) (rest := []) C (c_X8_in l dC dI cs x1 (0 : Int32) (5 : Int32) r3 hr3) (va_cwS 3 hts gX8_person_X8_in rfl rfl rfl (by decide +kernel) ⟨Nat.le_of_ble_eq_true rfl, Nat.le_of_ble_eq_true rfl⟩) ⟨(fun a U g mk q => ⟨q.1, q.2.1, GE.calling q.2.2⟩), (fun U hU hW => ⟨rfl, by rw [hU]; exact hPc, GE.warm hW G⟩)⟩ rfl rfl hl.1 rfl (lv_room (Nat.le_of_ble_eq_true rfl)) dX8_person_3 ⟨Nat.le_of_ble_eq_true rfl, Nat.le_of_ble_eq_true rfl⟩) (fun qr3 hqr3 => ?_)
  obtain ⟨hqr3, hnr3⟩ := hqr3
  obtain rfl := hqr3.symm
  refine lv_if_eq (tgt := 30) hx hb dX8_person_6 (by decide) (fun c1 => ?_) (fun c1 => ?_)
  · replace hf := it_t c1 hf
    exact b_X8_person_30 C G hA hR M _ _ _ (lv_sub hl [0] rfl) hP hD hS hf
  · replace hf := it_f c1 hf
    refine lv_iload_n hx hb dX8_person_9 rfl (lv_at hl 2 rfl) ?_
    refine lv_iconst (v := 0) hx hb dX8_person_10 (by decide) ?_
    refine lv_bipush (v := 99) hx hb dX8_person_11 (by decide) ?_
    obtain ⟨r13, hr13, hf⟩ := bn_e hf
    have hPc := hP.sub (ws' := ([] : va_W)) [] rfl
    refine vp_callSi (W.runS (As := [.int (x2), .int ((0 : Int32)), .int ((99 : Int32))]) (rest := []) C (c_X8_in l dC dI cs x2 (0 : Int32) (99 : Int32) r13 hr13) (va_cwS 3 hts gX8_person_X8_in rfl rfl rfl (by decide +kernel) ⟨Nat.le_of_ble_eq_true rfl, Nat.le_of_ble_eq_true rfl⟩) ⟨(fun a U g mk q => ⟨q.1, q.2.1, GE.calling q.2.2⟩), (fun U hU hW => ⟨rfl, by rw [hU]; exact hPc, GE.warm hW G⟩)⟩ rfl rfl hl.1 rfl (lv_room (Nat.le_of_ble_eq_true rfl)) dX8_person_13 ⟨Nat.le_of_ble_eq_true rfl, Nat.le_of_ble_eq_true rfl⟩) (fun qr13 hqr13 => ?_)
    obtain ⟨hqr13, hnr13⟩ := hqr13
    obtain rfl := hqr13.symm
    refine lv_if_eq (tgt := 30) hx hb dX8_person_16 (by decide) (fun c2 => ?_) (fun c2 => ?_)
    · replace hf := it_t c2 hf
      exact b_X8_person_30 C G hA hR M _ _ _ (lv_sub hl [0] rfl) hP hD hS hf
    · replace hf := it_f c2 hf
      refine lv_iload_n hx hb dX8_person_19 rfl (lv_at hl 3 rfl) ?_
      refine lv_iconst (v := 0) hx hb dX8_person_20 (by decide) ?_
      refine lv_sipush (v := 9999) hx hb dX8_person_21 (by decide) ?_
      obtain ⟨r24, hr24, hf⟩ := bn_e hf
      have hPc := hP.sub (ws' := ([] : va_W)) [] rfl
      refine vp_callSi (W.runS (As := [.int (x3), .int ((0 : Int32)), .int ((9999 : Int32))]) (rest := []) C (c_X8_in l dC dI cs x3 (0 : Int32) (9999 : Int32) r24 hr24) (va_cwS 3 hts gX8_person_X8_in rfl rfl rfl (by decide +kernel) ⟨Nat.le_of_ble_eq_true rfl, Nat.le_of_ble_eq_true rfl⟩) ⟨(fun a U g mk q => ⟨q.1, q.2.1, GE.calling q.2.2⟩), (fun U hU hW => ⟨rfl, by rw [hU]; exact hPc, GE.warm hW G⟩)⟩ rfl rfl hl.1 rfl (lv_room (Nat.le_of_ble_eq_true rfl)) dX8_person_24 ⟨Nat.le_of_ble_eq_true rfl, Nat.le_of_ble_eq_true rfl⟩) (fun qr24 hqr24 => ?_)
      obtain ⟨hqr24, hnr24⟩ := hqr24
      obtain rfl := hqr24.symm
      refine lv_if_ne (tgt := 35) hx hb dX8_person_27 (by decide) (fun c3 => ?_) (fun c3 => ?_)
      · replace hf := it_f c3 hf
        refine lv_aload_n hx hb dX8_person_35 rfl (lv_at hl 0 rfl) ?_
        refine va_get (D := (dC, dI)) (ci := 8) (v := .ref (a 1)) (C := RX8) (T := TX8) (N := 20) hx hb hts in_X8_person_X8 hown hK hP 0 rfl rfl 0 (by decide) (hts (.fieldLink RX8 7 "BackLoansModel" "now" "[I") (by decide +kernel)) (fun _ h9 => h9) rfl dX8_person_36 ?_
        refine lv_iconst (v := 3) hx hb dX8_person_39 (by decide) ?_
        obtain ⟨hi4, hf⟩ := gi_e hf
        refine va_iald hx hb hK hP 1 0 rfl rfl hi4 dX8_person_40 ?_
        refine lv_bipush (v := 6) hx hb dX8_person_41 (by decide) ?_
        refine lv_icmp_ne (tgt := 51) hx hb dX8_person_43 (by decide) (fun c5 => ?_) (fun c5 => ?_)
        · replace hf := it_f c5 hf
          refine lv_aload_n hx hb dX8_person_51 rfl (lv_at hl 0 rfl) ?_
          refine va_get (D := (dC, dI)) (ci := 8) (v := .ref (a 1)) (C := RX8) (T := TX8) (N := 20) hx hb hts in_X8_person_X8 hown hK hP 0 rfl rfl 0 (by decide) (hts (.fieldLink RX8 7 "BackLoansModel" "now" "[I") (by decide +kernel)) (fun _ h9 => h9) rfl dX8_person_52 ?_
          refine lv_iload_n hx hb dX8_person_55 rfl (lv_at hl 1 rfl) ?_
          refine lv_iload_n hx hb dX8_person_56 rfl (lv_at hl 2 rfl) ?_
          refine lv_iload_n hx hb dX8_person_57 rfl (lv_at hl 3 rfl) ?_
          obtain ⟨r58, hr58, hf⟩ := bn_e hf
          have hPc := hP.sub (ws' := (wA cs (a 1) 362 (M.2.2 0))) [1] rfl
          have hDc := hD.sub (ws' := (wA cs (a 1) 362 (M.2.2 0))) [1] (by decide) rfl
          have hFc := va_free (wc := (wA cs (a 1) 362 (M.2.2 0))) hD hS hA [1] rfl
          refine va_callv (va_runS (As := [.ref (a 1), .int (x1), .int (x2), .int (x3)]) (rest := []) C (c_X8_addPerson l dC dI cs (a 1) s.heap.size (M.2.2 0) x1 x2 x3 r58 hr58) (va_cwS 4 hts gX8_person_X8_addPerson rfl rfl rfl (by decide +kernel) ⟨Nat.le_of_ble_eq_true rfl, Nat.le_of_ble_eq_true rfl⟩) ⟨(fun a U g mk q => ⟨q.1, q.2.1, q.2.2.1, GE.calling q.2.2.2.1, q.2.2.2.2⟩), (fun U hU hW => ⟨rfl, by rw [hU], by rw [hU]; exact hPc, GE.warm hW G, hDc.weaken (fun _ _ _ _ => trivial)⟩)⟩ rfl rfl hl.1 rfl (lv_room (Nat.le_of_ble_eq_true rfl)) dX8_person_58 ⟨Nat.le_of_ble_eq_true rfl, Nat.le_of_ble_eq_true rfl⟩) hS (fun q _ h => hFc q h) hFc (fun u t H1 locs ht hvm hw hB hz1 hk1 hS => ?_)
          obtain rfl := hw.symm
          obtain ⟨hP1, hD1⟩ := hB
          rw [ht] at hP1
          obtain ⟨hP, hD⟩ := va_join (wr := [0, 2, 3, 4, 5, 6, 7, 8, 9, 10, 11].filterMap (fun i => ((wM cs a M))[i]?)) (w1 := (wA cs (a 1) 362 r58)) hP hD [1] [0, 2, 3, 4, 5, 6, 7, 8, 9, 10, 11] rfl rfl (by decide) (by decide) hk1 hFc hP1 hD1
          generalize H1 = H at hP hS ⊢
          have hP := hP.sub (ws' := (wM cs a (M.1, M.2.1, va_up M.2.2 0 (r58)))) [0, 11, 1, 2, 3, 4, 5, 6, 7, 8, 9, 10] rfl
          have hD := hD.sub (ws' := (wM cs a (M.1, M.2.1, va_up M.2.2 0 (r58)))) [0, 11, 1, 2, 3, 4, 5, 6, 7, 8, 9, 10] (by decide) rfl
          obtain ⟨M_58, hP, hD, hf⟩ := st_nm (ws := fun M_58 : Ms => (wM cs a M_58)) ((M.1, M.2.1, va_up M.2.2 0 (r58))) hP hD hf
          refine lv_aload_n hx hb dX8_person_61 rfl (lv_at hl 0 rfl) ?_
          refine va_get (D := (dC, dI)) (ci := 8) (v := .ref (a 1)) (C := RX8) (T := TX8) (N := 20) hx hb hts in_X8_person_X8 hown hK hP 0 rfl rfl 0 (by decide) (hts (.fieldLink RX8 7 "BackLoansModel" "now" "[I") (by decide +kernel)) (fun _ h9 => h9) rfl dX8_person_62 ?_
          refine lv_iconst (v := 3) hx hb dX8_person_65 (by decide) ?_
          obtain ⟨hi6, hf⟩ := gi_e hf
          refine va_iald hx hb hK hP 1 0 rfl rfl hi6 dX8_person_66 ?_
          refine lv_iconst (v := 1) hx hb dX8_person_67 (by decide) ?_
          refine lv_isub hx hb dX8_person_68 ?_
          exact hR _ _ _ _ _ _ dX8_person_69 hf hP hD hS
        · replace hf := it_t c5 hf
          refine lv_aload_n hx hb dX8_person_46 rfl (lv_at hl 0 rfl) ?_
          obtain ⟨r47, hr47, hf⟩ := bn_e hf
          have hPc := hP.sub (ws' := (wM cs a M)) [0, 1, 2, 3, 4, 5, 6, 7, 8, 9, 10, 11] rfl
          have hDc := hD.sub (ws' := (wM cs a M)) [0, 1, 2, 3, 4, 5, 6, 7, 8, 9, 10, 11] (by decide) rfl
          have hFc := va_free (wc := (wM cs a M)) hD hS hA [0, 1, 2, 3, 4, 5, 6, 7, 8, 9, 10, 11] rfl
          refine va_calli (va_runV (As := []) (rest := []) C (c_X8_full l dC dI cs a s.heap.size M r47 hr47) (cwV 0 hts gX8_person_X8_full rfl rfl rfl (by decide +kernel) ⟨Nat.le_of_ble_eq_true rfl, Nat.le_of_ble_eq_true rfl⟩) ⟨(fun a U g mk q => ⟨q.1, q.2.1, q.2.2.1, GE.calling q.2.2.2.1, q.2.2.2.2⟩), va_recv hK hPc (ci := 8) (q0 := 0) rfl rfl, (fun U hU hW => ⟨rfl, by rw [hU], by rw [hU]; exact hPc, GE.warm hW G, hDc.weaken (fun _ _ _ _ => trivial)⟩)⟩ rfl rfl hl.1 rfl (lv_room (Nat.le_of_ble_eq_true rfl)) dX8_person_47 ⟨Nat.le_of_ble_eq_true rfl, Nat.le_of_ble_eq_true rfl⟩) hS (fun q _ h => hFc q h) hFc (fun q u t H1 locs ht hvm hw hB hz1 hk1 hS => ?_)
          obtain ⟨rfl, rfl⟩ := hw
          obtain ⟨hP1, hD1⟩ := hB
          rw [ht] at hP1
          obtain ⟨hP, hD⟩ := va_join (wr := []) (w1 := (wM cs a r47.2)) hP hD [0, 1, 2, 3, 4, 5, 6, 7, 8, 9, 10, 11] [] rfl rfl (by decide) (by decide) hk1 hFc hP1 hD1
          generalize H1 = H at hP hS ⊢
          have hP := hP.sub (ws' := (wM cs a r47.2)) [0, 1, 2, 3, 4, 5, 6, 7, 8, 9, 10, 11] rfl
          have hD := hD.sub (ws' := (wM cs a r47.2)) [0, 1, 2, 3, 4, 5, 6, 7, 8, 9, 10, 11] (by decide) rfl
          exact hR _ _ _ _ _ _ dX8_person_50 hf hP hD hS
      · replace hf := it_t c3 hf
        exact b_X8_person_30 C G hA hR M _ _ _ (lv_sub hl [0] rfl) hP hD hS hf

def f_X8_addLoan (x1 : Int32) (x2 : Int32) (x3 : Int32) (tt : Nat → Int32) : Option ((Nat → Int32)) :=
  gi ((4 : Int32)) 362 <|
  lett ((26 : Int32) + ((5 : Int32) * (tt ((4 : Int32)).toNatClampNeg))) fun x4_8 =>
  gi (x4_8) 362 <|
  lett (upd tt (x4_8).toNatClampNeg (x1)) fun tt_14 =>
  gi ((x4_8 + (1 : Int32))) 362 <|
  lett (upd tt_14 ((x4_8 + (1 : Int32))).toNatClampNeg (x2)) fun tt_21 =>
  gi ((x4_8 + (2 : Int32))) 362 <|
  lett (upd tt_21 ((x4_8 + (2 : Int32))).toNatClampNeg (x3)) fun tt_28 =>
  gi ((x4_8 + (3 : Int32))) 362 <|
  lett (upd tt_28 ((x4_8 + (3 : Int32))).toNatClampNeg ((0 : Int32))) fun tt_35 =>
  gi ((x4_8 + (4 : Int32))) 362 <|
  lett (upd tt_35 ((x4_8 + (4 : Int32))).toNatClampNeg ((0 : Int32))) fun tt_42 =>
  gi ((4 : Int32)) 362 <|
  gi ((4 : Int32)) 362 <|
  lett (upd tt_42 ((4 : Int32)).toNatClampNeg (((tt_42 ((4 : Int32)).toNatClampNeg) + (1 : Int32)))) fun tt_49 =>
  some tt_49
set_option maxHeartbeats 4000000 in
set_option maxRecDepth 100000 in
theorem c_X8_addLoan (l : Launch) (dC : Nat → ClassId) (dI : Nat → Nat → Nat) (cs : Nat → ClassId) (a : Nat) (sz : Nat) (tt : Nat → Int32) (x1 : Int32) (x2 : Int32) (x3 : Int32) (res : (Nat → Int32)) (hf : f_X8_addLoan x1 x2 x3 tt = some res) : Met l yX8_addLoan wsX8_addLoan ({ frames := 0, cells := 0, slots := 0, locals := 0 }) (va_Pc [.ref a, .int (x1), .int (x2), .int (x3)] (fun U => U.heap.size = sz ∧ va_P (dC, dI) vwCl (wA cs a 362 tt) U.heap ∧ GE dC dI cs U ∧ va_D (fun _ => True) (wA cs a 362 tt))) (va_Qv (fun u : (Nat → Int32) => u = res) (fun u t => va_P (dC, dI) vwCl ((fun u : (Nat → Int32) => (wA cs a 362 u)) u) t.heap ∧ va_D (va_A (wA cs a 362 tt) sz) ((fun u : (Nat → Int32) => (wA cs a 362 u)) u)) (va_A (wA cs a 362 tt) sz)) 0 0 (va_A (wA cs a 362 tt) sz) := by
  refine Met.ofW (cc := cX8_addLoan) (maxL := 5) (ret := none) (by decide) rfl ?_
  intro p e s m args below meth c s₁ Bd hml hv
  obtain ⟨rfl, hsz, hP, G, hD0⟩ := hv
  have hts := atoms_spec (ws := wsX8_addLoan) Bd.pre
  have hown : s.vm.findClass RX8 = some m.cls := findClass_of_methodNamed Bd.named
  have hlocks := Bd.notSynchronized
  have hx := Bd.exec
  have hb := Bd.bytes
  have hr := Bd.returns
  have C : CallFix p m c cX8_addLoan 5 s _ wsX8_addLoan RX8 := ⟨hx, hb, hml, hown, hts⟩
  obtain ⟨hK, hN⟩ := id G
  subst hsz
  have hD := hD0.self (sz := s.heap.size)
  generalize hAe : va_A (wA cs a 362 tt) s.heap.size = A at hD ⊢
  have hA : ∀ q : Nat, s.heap.size ≤ q → A q := fun q h => by rw [← hAe]; exact Or.inr h
  have hS : va_S A s.heap s.heap [] := va_S.rf
  have hR : RTv p l e ({ frames := 0, cells := 0, slots := 0, locals := 0 }) s m ([.ref a, .int (x1), .int (x2), .int (x3)] : List Value).toArray below meth c cX8_addLoan (MQ below (va_Qv (fun u : (Nat → Int32) => u = res) (fun u t => va_P (dC, dI) vwCl ((fun u : (Nat → Int32) => (wA cs a 362 u)) u) t.heap ∧ va_D A ((fun u : (Nat → Int32) => (wA cs a 362 u)) u)) A) ([.ref a, .int (x1), .int (x2), .int (x3)] : List Value).toArray s 0 0 A) (dC, dI) A (fun u : (Nat → Int32) => (wA cs a 362 u)) res := fun H locs pc ls u dd h hP hD hS => W.vret hx hb hr (fun t ht hW => ⟨⟨u, rfl, by cases h; rfl, by rw [ht]; exact hP, hD⟩, hS.F ht⟩) hS.2.2 dd
  have hl := lv_entry ([.ref a, .int (x1), .int (x2), .int (x3)]) (n := 5) (Nat.le_of_ble_eq_true rfl)
  rw [lg_entry_eq]
  generalize (lg_sl ([.ref a, .int (x1), .int (x2), .int (x3)]) ++ List.replicate (5 - (lg_sl ([.ref a, .int (x1), .int (x2), .int (x3)])).length) Slot.unset).toArray = ls at hl ⊢
  have hl : lv_has ls 5 [(0, .ref a), (1, .int (x1)), (2, .int (x2)), (3, .int (x3))] := hl
  unfold f_X8_addLoan at hf
  refine lv_bipush (v := 26) hx hb dX8_addLoan_0 (by decide) ?_
  refine lv_iconst (v := 5) hx hb dX8_addLoan_2 (by decide) ?_
  refine lv_aload_n hx hb dX8_addLoan_3 rfl (lv_at hl 0 rfl) ?_
  refine lv_iconst (v := 4) hx hb dX8_addLoan_4 (by decide) ?_
  obtain ⟨hi1, hf⟩ := gi_e hf
  refine va_iald hx hb hK hP 0 0 rfl rfl hi1 dX8_addLoan_5 ?_
  refine lv_imul hx hb dX8_addLoan_6 ?_
  refine lv_iadd hx hb dX8_addLoan_7 ?_
  refine lv_topi (fun x4_8 ex4_8 => ?_)
  replace hf := lett_s ex4_8 hf
  refine lv_istore (lv' := [(4, .int (x4_8)), (0, .ref a), (1, .int (x1)), (2, .int (x2)), (3, .int (x3))]) hx hb dX8_addLoan_8 hl (by decide) rfl (fun ls hl => ?_)
  refine lv_aload_n hx hb dX8_addLoan_10 rfl (lv_at hl 1 rfl) ?_
  refine lv_iload hx hb dX8_addLoan_11 (lv_at hl 0 rfl) ?_
  refine lv_iload_n hx hb dX8_addLoan_13 rfl (lv_at hl 2 rfl) ?_
  obtain ⟨hi2, hf⟩ := gi_e hf
  refine va_iast hx hb hK hP hD hS 0 0 rfl rfl hi2 dX8_addLoan_14 (fun H locs hP hD hS => ?_)
  obtain ⟨tt_14, hP, hD, hf⟩ := st_nm (ws := fun tt_14 : Nat → Int32 => (wA cs a 362 tt_14)) (upd tt (x4_8).toNatClampNeg (x1)) hP hD hf
  refine lv_aload_n hx hb dX8_addLoan_15 rfl (lv_at hl 1 rfl) ?_
  refine lv_iload hx hb dX8_addLoan_16 (lv_at hl 0 rfl) ?_
  refine lv_iconst (v := 1) hx hb dX8_addLoan_18 (by decide) ?_
  refine lv_iadd hx hb dX8_addLoan_19 ?_
  refine lv_iload_n hx hb dX8_addLoan_20 rfl (lv_at hl 3 rfl) ?_
  obtain ⟨hi3, hf⟩ := gi_e hf
  refine va_iast hx hb hK hP hD hS 0 0 rfl rfl hi3 dX8_addLoan_21 (fun H locs hP hD hS => ?_)
  obtain ⟨tt_21, hP, hD, hf⟩ := st_nm (ws := fun tt_21 : Nat → Int32 => (wA cs a 362 tt_21)) (upd tt_14 ((x4_8 + (1 : Int32))).toNatClampNeg (x2)) hP hD hf
  refine lv_aload_n hx hb dX8_addLoan_22 rfl (lv_at hl 1 rfl) ?_
  refine lv_iload hx hb dX8_addLoan_23 (lv_at hl 0 rfl) ?_
  refine lv_iconst (v := 2) hx hb dX8_addLoan_25 (by decide) ?_
  refine lv_iadd hx hb dX8_addLoan_26 ?_
  refine lv_iload_n hx hb dX8_addLoan_27 rfl (lv_at hl 4 rfl) ?_
  obtain ⟨hi4, hf⟩ := gi_e hf
  refine va_iast hx hb hK hP hD hS 0 0 rfl rfl hi4 dX8_addLoan_28 (fun H locs hP hD hS => ?_)
  obtain ⟨tt_28, hP, hD, hf⟩ := st_nm (ws := fun tt_28 : Nat → Int32 => (wA cs a 362 tt_28)) (upd tt_21 ((x4_8 + (2 : Int32))).toNatClampNeg (x3)) hP hD hf
  refine lv_aload_n hx hb dX8_addLoan_29 rfl (lv_at hl 1 rfl) ?_
  refine lv_iload hx hb dX8_addLoan_30 (lv_at hl 0 rfl) ?_
  refine lv_iconst (v := 3) hx hb dX8_addLoan_32 (by decide) ?_
  refine lv_iadd hx hb dX8_addLoan_33 ?_
  refine lv_iconst (v := 0) hx hb dX8_addLoan_34 (by decide) ?_
  obtain ⟨hi5, hf⟩ := gi_e hf
  refine va_iast hx hb hK hP hD hS 0 0 rfl rfl hi5 dX8_addLoan_35 (fun H locs hP hD hS => ?_)
  obtain ⟨tt_35, hP, hD, hf⟩ := st_nm (ws := fun tt_35 : Nat → Int32 => (wA cs a 362 tt_35)) (upd tt_28 ((x4_8 + (3 : Int32))).toNatClampNeg ((0 : Int32))) hP hD hf
  refine lv_aload_n hx hb dX8_addLoan_36 rfl (lv_at hl 1 rfl) ?_
  refine lv_iload hx hb dX8_addLoan_37 (lv_at hl 0 rfl) ?_
  refine lv_iconst (v := 4) hx hb dX8_addLoan_39 (by decide) ?_
  refine lv_iadd hx hb dX8_addLoan_40 ?_
  refine lv_iconst (v := 0) hx hb dX8_addLoan_41 (by decide) ?_
  obtain ⟨hi6, hf⟩ := gi_e hf
  refine va_iast hx hb hK hP hD hS 0 0 rfl rfl hi6 dX8_addLoan_42 (fun H locs hP hD hS => ?_)
  obtain ⟨tt_42, hP, hD, hf⟩ := st_nm (ws := fun tt_42 : Nat → Int32 => (wA cs a 362 tt_42)) (upd tt_35 ((x4_8 + (4 : Int32))).toNatClampNeg ((0 : Int32))) hP hD hf
  refine lv_aload_n hx hb dX8_addLoan_43 rfl (lv_at hl 1 rfl) ?_
  refine lv_iconst (v := 4) hx hb dX8_addLoan_44 (by decide) ?_
  refine lv_dup2_11 hx hb dX8_addLoan_45 rfl rfl ?_
  obtain ⟨hi7, hf⟩ := gi_e hf
  refine va_iald hx hb hK hP 0 0 rfl rfl hi7 dX8_addLoan_46 ?_
  refine lv_iconst (v := 1) hx hb dX8_addLoan_47 (by decide) ?_
  refine lv_iadd hx hb dX8_addLoan_48 ?_
  obtain ⟨hi8, hf⟩ := gi_e hf
  refine va_iast hx hb hK hP hD hS 0 0 rfl rfl hi8 dX8_addLoan_49 (fun H locs hP hD hS => ?_)
  obtain ⟨tt_49, hP, hD, hf⟩ := st_nm (ws := fun tt_49 : Nat → Int32 => (wA cs a 362 tt_49)) (upd tt_42 ((4 : Int32)).toNatClampNeg (((tt_42 ((4 : Int32)).toNatClampNeg) + (1 : Int32)))) hP hD hf
  exact hR _ _ _ _ _ dX8_addLoan_50 hf hP hD hS

theorem in_X8_isPerson_X8 : ∀ w ∈ wsX80, w ∈ wsX8_isPerson := by decide +kernel
def f_X8_isPerson (x1 : Int32) (M : Ms) : Option Int32 :=
  gi ((3 : Int32)) 362 <|
  bn (f_X8_in x1 (0 : Int32) (((M.2.2 0) ((3 : Int32)).toNatClampNeg) - (1 : Int32))) fun r10 =>
  some r10
set_option maxHeartbeats 4000000 in
set_option maxRecDepth 100000 in
theorem c_X8_isPerson (l : Launch) (dC : Nat → ClassId) (dI : Nat → Nat → Nat) (cs : Nat → ClassId) (a : Nat → Nat) (M : Ms) (x1 : Int32) (res : Int32) (hf : f_X8_isPerson x1 M = some res) : Met l yX8_isPerson wsX8_isPerson ({ frames := 1, cells := 0, slots := 0, locals := 22 }) (va_Pc [.ref (a 0), .int (x1)] (fun U => va_P (dC, dI) vwCl (wM cs a M) U.heap ∧ GE dC dI cs U)) (vp_Si (fun r => r = res ∧ narrow .boolean (.int r) = .int r)) 0 0 (fun _ => False) := by
  refine Met.ofW (cc := cX8_isPerson) (maxL := 2) (ret := (some .boolean)) (by decide) rfl ?_
  intro p e s m args below meth c s₁ Bd hml hv
  obtain ⟨rfl, hP, G⟩ := hv
  have hts := atoms_spec (ws := wsX8_isPerson) Bd.pre
  have hown : s.vm.findClass RX8 = some m.cls := findClass_of_methodNamed Bd.named
  have hlocks := Bd.notSynchronized
  have hx := Bd.exec
  have hb := Bd.bytes
  have hr := Bd.returns
  have C : CallFix p m c cX8_isPerson 2 s _ wsX8_isPerson RX8 := ⟨hx, hb, hml, hown, hts⟩
  obtain ⟨hK, hN⟩ := id G
  have hR : RPz p l e ({ frames := 1, cells := 0, slots := 0, locals := 22 }) s m ([.ref (a 0), .int (x1)] : List Value).toArray below meth c cX8_isPerson (MQ below (vp_Si (fun r => r = res ∧ narrow .boolean (.int r) = .int r)) ([.ref (a 0), .int (x1)] : List Value).toArray s 0 0 (fun _ => False)) res := fun pc ls r dd hn h => W.zret hx hb hr hn (fun t ht hW => ⟨r, rfl, ⟨Option.some.inj h, hn⟩, ht⟩) (fun q hq => by cases hq) dd
  have hl := lv_entry ([.ref (a 0), .int (x1)]) (n := 2) (Nat.le_of_ble_eq_true rfl)
  rw [lg_entry_eq]
  generalize (lg_sl ([.ref (a 0), .int (x1)]) ++ List.replicate (2 - (lg_sl ([.ref (a 0), .int (x1)])).length) Slot.unset).toArray = ls at hl ⊢
  have hl : lv_has ls 2 [(0, .ref (a 0)), (1, .int (x1))] := hl
  unfold f_X8_isPerson at hf
  refine lv_iload_n hx hb dX8_isPerson_0 rfl (lv_at hl 1 rfl) ?_
  refine lv_iconst (v := 0) hx hb dX8_isPerson_1 (by decide) ?_
  refine lv_aload_n hx hb dX8_isPerson_2 rfl (lv_at hl 0 rfl) ?_
  refine va_get (D := (dC, dI)) (ci := 8) (v := .ref (a 1)) (C := RX8) (T := TX8) (N := 20) hx hb hts in_X8_isPerson_X8 hown hK hP 0 rfl rfl 0 (by decide) (hts (.fieldLink RX8 7 "BackLoansModel" "now" "[I") (by decide +kernel)) (fun _ h9 => h9) rfl dX8_isPerson_3 ?_
  refine lv_iconst (v := 3) hx hb dX8_isPerson_6 (by decide) ?_
  obtain ⟨hi1, hf⟩ := gi_e hf
  refine va_iald hx hb hK hP 1 0 rfl rfl hi1 dX8_isPerson_7 ?_
  refine lv_iconst (v := 1) hx hb dX8_isPerson_8 (by decide) ?_
  refine lv_isub hx hb dX8_isPerson_9 ?_
  obtain ⟨r10, hr10, hf⟩ := bn_e hf
  have hPc := hP.sub (ws' := ([] : va_W)) [] rfl
  refine vp_callSi (W.runS (As := [.int (x1), .int ((0 : Int32)), .int ((((M.2.2 0) ((3 : Int32)).toNatClampNeg) - (1 : Int32)))]) (rest := []) C (c_X8_in l dC dI cs x1 (0 : Int32) (((M.2.2 0) ((3 : Int32)).toNatClampNeg) - (1 : Int32)) r10 hr10) (va_cwS 3 hts gX8_isPerson_X8_in rfl rfl rfl (by decide +kernel) ⟨Nat.le_of_ble_eq_true rfl, Nat.le_of_ble_eq_true rfl⟩) ⟨(fun a U g mk q => ⟨q.1, q.2.1, GE.calling q.2.2⟩), (fun U hU hW => ⟨rfl, by rw [hU]; exact hPc, GE.warm hW G⟩)⟩ rfl rfl hl.1 rfl (lv_room (Nat.le_of_ble_eq_true rfl)) dX8_isPerson_10 ⟨Nat.le_of_ble_eq_true rfl, Nat.le_of_ble_eq_true rfl⟩) (fun qr10 hqr10 => ?_)
  obtain ⟨hqr10, hnr10⟩ := hqr10
  obtain rfl := hqr10.symm
  exact hR _ _ _ dX8_isPerson_13 hnr10 hf

theorem in_X8_loan_X8 : ∀ w ∈ wsX80, w ∈ wsX8_loan := by decide +kernel
def f_X8_loan_28 (M : Ms)  : Option (Int32 × Ms) :=
  bn (f_X8_bad M) fun r29 =>
  some (r29.1, r29.2)
set_option maxHeartbeats 4000000 in
set_option maxRecDepth 100000 in
theorem b_X8_loan_28 {p : Program} {l : Launch} {e : Env} {s : State} {m : MethodId} {args : Array Value} {below : List Frame} {meth : Method} {c : Code} {Q : State → Prop} {dC : Nat → ClassId} {dI : Nat → Nat → Nat} {cs : Nat → ClassId} {A : Nat → Prop} {a : Nat → Nat} {res : Int32 × Ms} (C : CallFix p m c cX8_loan 4 s args wsX8_loan RX8) (G : GE dC dI cs s) (hA : ∀ q : Nat, s.heap.size ≤ q → A q) (hR : RTi p l e ({ frames := 2, cells := 0, slots := 0, locals := 43 }) s m args below meth c cX8_loan Q (dC, dI) A (fun u : Ms => (wM cs a u)) res) (M : Ms)   (H : Heap) (locs : List Loc) (ls : Array Slot) (hl : lv_has ls 4 [(0, .ref (a 0))]) (hP : va_P (dC, dI) vwCl (wM cs a M) H) (hD : va_D A (wM cs a M)) (hS : va_S A s.heap H locs) (hf : f_X8_loan_28 M = some res) : W p l e ({ frames := 2, cells := 0, slots := 0, locals := 43 }) s m args below meth c H locs 0 0 Q (F0 m 28 ls []) := by
  obtain ⟨hx, hb, hml, hown, hts⟩ := id C
  obtain ⟨hK, hN⟩ := id G
  unfold f_X8_loan_28 at hf
  refine lv_aload_n hx hb dX8_loan_28 rfl (lv_at hl 0 rfl) ?_
  obtain ⟨r29, hr29, hf⟩ := bn_e hf
  have hPc := hP.sub (ws' := (wM cs a M)) [0, 1, 2, 3, 4, 5, 6, 7, 8, 9, 10, 11] rfl
  have hDc := hD.sub (ws' := (wM cs a M)) [0, 1, 2, 3, 4, 5, 6, 7, 8, 9, 10, 11] (by decide) rfl
  have hFc := va_free (wc := (wM cs a M)) hD hS hA [0, 1, 2, 3, 4, 5, 6, 7, 8, 9, 10, 11] rfl
  refine va_calli (va_runV (As := []) (rest := []) C (c_X8_bad l dC dI cs a H.size M r29 hr29) (cwV 0 hts gX8_loan_X8_bad rfl rfl rfl (by decide +kernel) ⟨Nat.le_of_ble_eq_true rfl, Nat.le_of_ble_eq_true rfl⟩) ⟨(fun a U g mk q => ⟨q.1, q.2.1, q.2.2.1, GE.calling q.2.2.2.1, q.2.2.2.2⟩), va_recv hK hPc (ci := 8) (q0 := 0) rfl rfl, (fun U hU hW => ⟨rfl, by rw [hU], by rw [hU]; exact hPc, GE.warm hW G, hDc.weaken (fun _ _ _ _ => trivial)⟩)⟩ rfl rfl hl.1 rfl (lv_room (Nat.le_of_ble_eq_true rfl)) dX8_loan_29 ⟨Nat.le_of_ble_eq_true rfl, Nat.le_of_ble_eq_true rfl⟩) hS (fun q _ h => hFc q h) hFc (fun q u t H1 locs ht hvm hw hB hz1 hk1 hS => ?_)
  obtain ⟨rfl, rfl⟩ := hw
  obtain ⟨hP1, hD1⟩ := hB
  rw [ht] at hP1
  obtain ⟨hP, hD⟩ := va_join (wr := []) (w1 := (wM cs a r29.2)) hP hD [0, 1, 2, 3, 4, 5, 6, 7, 8, 9, 10, 11] [] rfl rfl (by decide) (by decide) hk1 hFc hP1 hD1
  generalize H1 = H at hP hS ⊢
  have hP := hP.sub (ws' := (wM cs a r29.2)) [0, 1, 2, 3, 4, 5, 6, 7, 8, 9, 10, 11] rfl
  have hD := hD.sub (ws' := (wM cs a r29.2)) [0, 1, 2, 3, 4, 5, 6, 7, 8, 9, 10, 11] (by decide) rfl
  exact hR _ _ _ _ _ _ dX8_loan_32 hf hP hD hS
def f_X8_loan (x1 : Int32) (x2 : Int32) (x3 : Int32) (M : Ms) : Option (Int32 × Ms) :=
  bn (f_X8_isPerson x1 M) fun r2 =>
  if r2 = 0 then (
    f_X8_loan_28 M
  ) else (
    bn (f_X8_in x2 (1 : Int32) (99 : Int32)) fun r12 =>
    if r12 = 0 then (
      f_X8_loan_28 M
    ) else (
      bn (f_X8_in x3 (1 : Int32) (12 : Int32)) fun r22 =>
      if r22 = 0 then (
        f_X8_loan_28 M
      ) else (
        gi ((4 : Int32)) 362 <|
        if ((M.2.2 0) ((4 : Int32)).toNatClampNeg) = (8 : Int32) then (
          bn (f_X8_full M) fun r45 =>
          some (r45.1, r45.2)
        ) else (
          bn (f_X8_addLoan x1 x2 x3 (M.2.2 0)) fun r56 =>
          lett ((M.1, M.2.1, va_up M.2.2 0 (r56))) fun M_56 =>
          gi ((4 : Int32)) 362 <|
          some ((((M_56.2.2 0) ((4 : Int32)).toNatClampNeg) - (1 : Int32)), M_56)
        )
      )
    )
  )
set_option maxHeartbeats 4000000 in
set_option maxRecDepth 100000 in
theorem c_X8_loan (l : Launch) (dC : Nat → ClassId) (dI : Nat → Nat → Nat) (cs : Nat → ClassId) (a : Nat → Nat) (sz : Nat) (M : Ms) (x1 : Int32) (x2 : Int32) (x3 : Int32) (res : Int32 × Ms) (hf : f_X8_loan x1 x2 x3 M = some res) : Met l yX8_loan wsX8_loan ({ frames := 2, cells := 0, slots := 0, locals := 43 }) (va_Pc [.ref (a 0), .int (x1), .int (x2), .int (x3)] (fun U => U.heap.size = sz ∧ va_P (dC, dI) vwCl (wM cs a M) U.heap ∧ GE dC dI cs U ∧ va_D (fun _ => True) (wM cs a M))) (va_Qi (fun r (u : Ms) => r = res.1 ∧ u = res.2) (fun u t => va_P (dC, dI) vwCl ((fun u : Ms => (wM cs a u)) u) t.heap ∧ va_D (va_A (wM cs a M) sz) ((fun u : Ms => (wM cs a u)) u)) (va_A (wM cs a M) sz)) 0 0 (va_A (wM cs a M) sz) := by
  refine Met.ofW (cc := cX8_loan) (maxL := 4) (ret := (some .int)) (by decide) rfl ?_
  intro p e s m args below meth c s₁ Bd hml hv
  obtain ⟨rfl, hsz, hP, G, hD0⟩ := hv
  have hts := atoms_spec (ws := wsX8_loan) Bd.pre
  have hown : s.vm.findClass RX8 = some m.cls := findClass_of_methodNamed Bd.named
  have hlocks := Bd.notSynchronized
  have hx := Bd.exec
  have hb := Bd.bytes
  have hr := Bd.returns
  have C : CallFix p m c cX8_loan 4 s _ wsX8_loan RX8 := ⟨hx, hb, hml, hown, hts⟩
  obtain ⟨hK, hN⟩ := id G
  subst hsz
  have hD := hD0.self (sz := s.heap.size)
  generalize hAe : va_A (wM cs a M) s.heap.size = A at hD ⊢
  have hA : ∀ q : Nat, s.heap.size ≤ q → A q := fun q h => by rw [← hAe]; exact Or.inr h
  have hS : va_S A s.heap s.heap [] := va_S.rf
  have hR : RTi p l e ({ frames := 2, cells := 0, slots := 0, locals := 43 }) s m ([.ref (a 0), .int (x1), .int (x2), .int (x3)] : List Value).toArray below meth c cX8_loan (MQ below (va_Qi (fun r (u : Ms) => r = res.1 ∧ u = res.2) (fun u t => va_P (dC, dI) vwCl ((fun u : Ms => (wM cs a u)) u) t.heap ∧ va_D A ((fun u : Ms => (wM cs a u)) u)) A) ([.ref (a 0), .int (x1), .int (x2), .int (x3)] : List Value).toArray s 0 0 A) (dC, dI) A (fun u : Ms => (wM cs a u)) res := fun H locs pc ls r u dd h hP hD hS => W.iret hx hb hr (fun t ht hW => ⟨⟨r, u, rfl, by cases h; exact ⟨rfl, rfl⟩, by rw [ht]; exact hP, hD⟩, hS.F ht⟩) hS.2.2 dd
  have hl := lv_entry ([.ref (a 0), .int (x1), .int (x2), .int (x3)]) (n := 4) (Nat.le_of_ble_eq_true rfl)
  rw [lg_entry_eq]
  generalize (lg_sl ([.ref (a 0), .int (x1), .int (x2), .int (x3)]) ++ List.replicate (4 - (lg_sl ([.ref (a 0), .int (x1), .int (x2), .int (x3)])).length) Slot.unset).toArray = ls at hl ⊢
  have hl : lv_has ls 4 [(0, .ref (a 0)), (1, .int (x1)), (2, .int (x2)), (3, .int (x3))] := hl
  unfold f_X8_loan at hf
  refine lv_aload_n hx hb dX8_loan_0 rfl (lv_at hl 0 rfl) ?_
  refine lv_iload_n hx hb dX8_loan_1 rfl (lv_at hl 1 rfl) ?_
  obtain ⟨r2, hr2, hf⟩ := bn_e hf
  have hPc := hP.sub (ws' := (wM cs a M)) [0, 1, 2, 3, 4, 5, 6, 7, 8, 9, 10, 11] rfl
  refine vp_callSi (W.runV (As := [.int (x1)]) (rest := []) C (c_X8_isPerson l dC dI cs a M x1 r2 hr2) (cwV 1 hts gX8_loan_X8_isPerson rfl rfl rfl (by decide +kernel) ⟨Nat.le_of_ble_eq_true rfl, Nat.le_of_ble_eq_true rfl⟩) ⟨(fun a U g mk q => ⟨q.1, q.2.1, GE.calling q.2.2⟩), va_recv hK hPc (ci := 8) (q0 := 0) rfl rfl, (fun U hU hW => ⟨rfl, by rw [hU]; exact hPc, GE.warm hW G⟩)⟩ rfl rfl hl.1 rfl (lv_room (Nat.le_of_ble_eq_true rfl)) dX8_loan_2 ⟨Nat.le_of_ble_eq_true rfl, Nat.le_of_ble_eq_true rfl⟩) (fun qr2 hqr2 => ?_)
  obtain ⟨hqr2, hnr2⟩ := hqr2
  obtain rfl := hqr2.symm
  refine lv_if_eq (tgt := 28) hx hb dX8_loan_5 (by decide) (fun c1 => ?_) (fun c1 => ?_)
  · replace hf := it_t c1 hf
    exact b_X8_loan_28 C G hA hR M _ _ _ (lv_sub hl [0] rfl) hP hD hS hf
  · replace hf := it_f c1 hf
    refine lv_iload_n hx hb dX8_loan_8 rfl (lv_at hl 2 rfl) ?_
    refine lv_iconst (v := 1) hx hb dX8_loan_9 (by decide) ?_
    refine lv_bipush (v := 99) hx hb dX8_loan_10 (by decide) ?_
    obtain ⟨r12, hr12, hf⟩ := bn_e hf
    have hPc := hP.sub (ws' := ([] : va_W)) [] rfl
    refine vp_callSi (W.runS (As := [.int (x2), .int ((1 : Int32)), .int ((99 : Int32))]) (rest := []) C (c_X8_in l dC dI cs x2 (1 : Int32) (99 : Int32) r12 hr12) (va_cwS 3 hts gX8_loan_X8_in rfl rfl rfl (by decide +kernel) ⟨Nat.le_of_ble_eq_true rfl, Nat.le_of_ble_eq_true rfl⟩) ⟨(fun a U g mk q => ⟨q.1, q.2.1, GE.calling q.2.2⟩), (fun U hU hW => ⟨rfl, by rw [hU]; exact hPc, GE.warm hW G⟩)⟩ rfl rfl hl.1 rfl (lv_room (Nat.le_of_ble_eq_true rfl)) dX8_loan_12 ⟨Nat.le_of_ble_eq_true rfl, Nat.le_of_ble_eq_true rfl⟩) (fun qr12 hqr12 => ?_)
    obtain ⟨hqr12, hnr12⟩ := hqr12
    obtain rfl := hqr12.symm
    refine lv_if_eq (tgt := 28) hx hb dX8_loan_15 (by decide) (fun c2 => ?_) (fun c2 => ?_)
    · replace hf := it_t c2 hf
      exact b_X8_loan_28 C G hA hR M _ _ _ (lv_sub hl [0] rfl) hP hD hS hf
    · replace hf := it_f c2 hf
      refine lv_iload_n hx hb dX8_loan_18 rfl (lv_at hl 3 rfl) ?_
      refine lv_iconst (v := 1) hx hb dX8_loan_19 (by decide) ?_
      refine lv_bipush (v := 12) hx hb dX8_loan_20 (by decide) ?_
      obtain ⟨r22, hr22, hf⟩ := bn_e hf
      have hPc := hP.sub (ws' := ([] : va_W)) [] rfl
      refine vp_callSi (W.runS (As := [.int (x3), .int ((1 : Int32)), .int ((12 : Int32))]) (rest := []) C (c_X8_in l dC dI cs x3 (1 : Int32) (12 : Int32) r22 hr22) (va_cwS 3 hts gX8_loan_X8_in rfl rfl rfl (by decide +kernel) ⟨Nat.le_of_ble_eq_true rfl, Nat.le_of_ble_eq_true rfl⟩) ⟨(fun a U g mk q => ⟨q.1, q.2.1, GE.calling q.2.2⟩), (fun U hU hW => ⟨rfl, by rw [hU]; exact hPc, GE.warm hW G⟩)⟩ rfl rfl hl.1 rfl (lv_room (Nat.le_of_ble_eq_true rfl)) dX8_loan_22 ⟨Nat.le_of_ble_eq_true rfl, Nat.le_of_ble_eq_true rfl⟩) (fun qr22 hqr22 => ?_)
      obtain ⟨hqr22, hnr22⟩ := hqr22
      obtain rfl := hqr22.symm
      refine lv_if_ne (tgt := 33) hx hb dX8_loan_25 (by decide) (fun c3 => ?_) (fun c3 => ?_)
      · replace hf := it_f c3 hf
        refine lv_aload_n hx hb dX8_loan_33 rfl (lv_at hl 0 rfl) ?_
        refine va_get (D := (dC, dI)) (ci := 8) (v := .ref (a 1)) (C := RX8) (T := TX8) (N := 20) hx hb hts in_X8_loan_X8 hown hK hP 0 rfl rfl 0 (by decide) (hts (.fieldLink RX8 7 "BackLoansModel" "now" "[I") (by decide +kernel)) (fun _ h9 => h9) rfl dX8_loan_34 ?_
        refine lv_iconst (v := 4) hx hb dX8_loan_37 (by decide) ?_
        obtain ⟨hi4, hf⟩ := gi_e hf
        refine va_iald hx hb hK hP 1 0 rfl rfl hi4 dX8_loan_38 ?_
        refine lv_bipush (v := 8) hx hb dX8_loan_39 (by decide) ?_
        refine lv_icmp_ne (tgt := 49) hx hb dX8_loan_41 (by decide) (fun c5 => ?_) (fun c5 => ?_)
        · replace hf := it_f c5 hf
          refine lv_aload_n hx hb dX8_loan_49 rfl (lv_at hl 0 rfl) ?_
          refine va_get (D := (dC, dI)) (ci := 8) (v := .ref (a 1)) (C := RX8) (T := TX8) (N := 20) hx hb hts in_X8_loan_X8 hown hK hP 0 rfl rfl 0 (by decide) (hts (.fieldLink RX8 7 "BackLoansModel" "now" "[I") (by decide +kernel)) (fun _ h9 => h9) rfl dX8_loan_50 ?_
          refine lv_iload_n hx hb dX8_loan_53 rfl (lv_at hl 1 rfl) ?_
          refine lv_iload_n hx hb dX8_loan_54 rfl (lv_at hl 2 rfl) ?_
          refine lv_iload_n hx hb dX8_loan_55 rfl (lv_at hl 3 rfl) ?_
          obtain ⟨r56, hr56, hf⟩ := bn_e hf
          have hPc := hP.sub (ws' := (wA cs (a 1) 362 (M.2.2 0))) [1] rfl
          have hDc := hD.sub (ws' := (wA cs (a 1) 362 (M.2.2 0))) [1] (by decide) rfl
          have hFc := va_free (wc := (wA cs (a 1) 362 (M.2.2 0))) hD hS hA [1] rfl
          refine va_callv (va_runS (As := [.ref (a 1), .int (x1), .int (x2), .int (x3)]) (rest := []) C (c_X8_addLoan l dC dI cs (a 1) s.heap.size (M.2.2 0) x1 x2 x3 r56 hr56) (va_cwS 4 hts gX8_loan_X8_addLoan rfl rfl rfl (by decide +kernel) ⟨Nat.le_of_ble_eq_true rfl, Nat.le_of_ble_eq_true rfl⟩) ⟨(fun a U g mk q => ⟨q.1, q.2.1, q.2.2.1, GE.calling q.2.2.2.1, q.2.2.2.2⟩), (fun U hU hW => ⟨rfl, by rw [hU], by rw [hU]; exact hPc, GE.warm hW G, hDc.weaken (fun _ _ _ _ => trivial)⟩)⟩ rfl rfl hl.1 rfl (lv_room (Nat.le_of_ble_eq_true rfl)) dX8_loan_56 ⟨Nat.le_of_ble_eq_true rfl, Nat.le_of_ble_eq_true rfl⟩) hS (fun q _ h => hFc q h) hFc (fun u t H1 locs ht hvm hw hB hz1 hk1 hS => ?_)
          obtain rfl := hw.symm
          obtain ⟨hP1, hD1⟩ := hB
          rw [ht] at hP1
          obtain ⟨hP, hD⟩ := va_join (wr := [0, 2, 3, 4, 5, 6, 7, 8, 9, 10, 11].filterMap (fun i => ((wM cs a M))[i]?)) (w1 := (wA cs (a 1) 362 r56)) hP hD [1] [0, 2, 3, 4, 5, 6, 7, 8, 9, 10, 11] rfl rfl (by decide) (by decide) hk1 hFc hP1 hD1
          generalize H1 = H at hP hS ⊢
          have hP := hP.sub (ws' := (wM cs a (M.1, M.2.1, va_up M.2.2 0 (r56)))) [0, 11, 1, 2, 3, 4, 5, 6, 7, 8, 9, 10] rfl
          have hD := hD.sub (ws' := (wM cs a (M.1, M.2.1, va_up M.2.2 0 (r56)))) [0, 11, 1, 2, 3, 4, 5, 6, 7, 8, 9, 10] (by decide) rfl
          obtain ⟨M_56, hP, hD, hf⟩ := st_nm (ws := fun M_56 : Ms => (wM cs a M_56)) ((M.1, M.2.1, va_up M.2.2 0 (r56))) hP hD hf
          refine lv_aload_n hx hb dX8_loan_59 rfl (lv_at hl 0 rfl) ?_
          refine va_get (D := (dC, dI)) (ci := 8) (v := .ref (a 1)) (C := RX8) (T := TX8) (N := 20) hx hb hts in_X8_loan_X8 hown hK hP 0 rfl rfl 0 (by decide) (hts (.fieldLink RX8 7 "BackLoansModel" "now" "[I") (by decide +kernel)) (fun _ h9 => h9) rfl dX8_loan_60 ?_
          refine lv_iconst (v := 4) hx hb dX8_loan_63 (by decide) ?_
          obtain ⟨hi6, hf⟩ := gi_e hf
          refine va_iald hx hb hK hP 1 0 rfl rfl hi6 dX8_loan_64 ?_
          refine lv_iconst (v := 1) hx hb dX8_loan_65 (by decide) ?_
          refine lv_isub hx hb dX8_loan_66 ?_
          exact hR _ _ _ _ _ _ dX8_loan_67 hf hP hD hS
        · replace hf := it_t c5 hf
          refine lv_aload_n hx hb dX8_loan_44 rfl (lv_at hl 0 rfl) ?_
          obtain ⟨r45, hr45, hf⟩ := bn_e hf
          have hPc := hP.sub (ws' := (wM cs a M)) [0, 1, 2, 3, 4, 5, 6, 7, 8, 9, 10, 11] rfl
          have hDc := hD.sub (ws' := (wM cs a M)) [0, 1, 2, 3, 4, 5, 6, 7, 8, 9, 10, 11] (by decide) rfl
          have hFc := va_free (wc := (wM cs a M)) hD hS hA [0, 1, 2, 3, 4, 5, 6, 7, 8, 9, 10, 11] rfl
          refine va_calli (va_runV (As := []) (rest := []) C (c_X8_full l dC dI cs a s.heap.size M r45 hr45) (cwV 0 hts gX8_loan_X8_full rfl rfl rfl (by decide +kernel) ⟨Nat.le_of_ble_eq_true rfl, Nat.le_of_ble_eq_true rfl⟩) ⟨(fun a U g mk q => ⟨q.1, q.2.1, q.2.2.1, GE.calling q.2.2.2.1, q.2.2.2.2⟩), va_recv hK hPc (ci := 8) (q0 := 0) rfl rfl, (fun U hU hW => ⟨rfl, by rw [hU], by rw [hU]; exact hPc, GE.warm hW G, hDc.weaken (fun _ _ _ _ => trivial)⟩)⟩ rfl rfl hl.1 rfl (lv_room (Nat.le_of_ble_eq_true rfl)) dX8_loan_45 ⟨Nat.le_of_ble_eq_true rfl, Nat.le_of_ble_eq_true rfl⟩) hS (fun q _ h => hFc q h) hFc (fun q u t H1 locs ht hvm hw hB hz1 hk1 hS => ?_)
          obtain ⟨rfl, rfl⟩ := hw
          obtain ⟨hP1, hD1⟩ := hB
          rw [ht] at hP1
          obtain ⟨hP, hD⟩ := va_join (wr := []) (w1 := (wM cs a r45.2)) hP hD [0, 1, 2, 3, 4, 5, 6, 7, 8, 9, 10, 11] [] rfl rfl (by decide) (by decide) hk1 hFc hP1 hD1
          generalize H1 = H at hP hS ⊢
          have hP := hP.sub (ws' := (wM cs a r45.2)) [0, 1, 2, 3, 4, 5, 6, 7, 8, 9, 10, 11] rfl
          have hD := hD.sub (ws' := (wM cs a r45.2)) [0, 1, 2, 3, 4, 5, 6, 7, 8, 9, 10, 11] (by decide) rfl
          exact hR _ _ _ _ _ _ dX8_loan_48 hf hP hD hS
      · replace hf := it_t c3 hf
        exact b_X8_loan_28 C G hA hR M _ _ _ (lv_sub hl [0] rfl) hP hD hS hf

def f_X8_addOffer (x1 : Int32) (x2 : Int32) (tt : Nat → Int32) : Option ((Nat → Int32)) :=
  gi ((5 : Int32)) 362 <|
  lett ((66 : Int32) + ((2 : Int32) * (tt ((5 : Int32)).toNatClampNeg))) fun x3_8 =>
  gi (x3_8) 362 <|
  lett (upd tt (x3_8).toNatClampNeg (x1)) fun tt_12 =>
  gi ((x3_8 + (1 : Int32))) 362 <|
  lett (upd tt_12 ((x3_8 + (1 : Int32))).toNatClampNeg (x2)) fun tt_18 =>
  gi ((5 : Int32)) 362 <|
  gi ((5 : Int32)) 362 <|
  lett (upd tt_18 ((5 : Int32)).toNatClampNeg (((tt_18 ((5 : Int32)).toNatClampNeg) + (1 : Int32)))) fun tt_25 =>
  some tt_25
set_option maxHeartbeats 4000000 in
set_option maxRecDepth 100000 in
theorem c_X8_addOffer (l : Launch) (dC : Nat → ClassId) (dI : Nat → Nat → Nat) (cs : Nat → ClassId) (a : Nat) (sz : Nat) (tt : Nat → Int32) (x1 : Int32) (x2 : Int32) (res : (Nat → Int32)) (hf : f_X8_addOffer x1 x2 tt = some res) : Met l yX8_addOffer wsX8_addOffer ({ frames := 0, cells := 0, slots := 0, locals := 0 }) (va_Pc [.ref a, .int (x1), .int (x2)] (fun U => U.heap.size = sz ∧ va_P (dC, dI) vwCl (wA cs a 362 tt) U.heap ∧ GE dC dI cs U ∧ va_D (fun _ => True) (wA cs a 362 tt))) (va_Qv (fun u : (Nat → Int32) => u = res) (fun u t => va_P (dC, dI) vwCl ((fun u : (Nat → Int32) => (wA cs a 362 u)) u) t.heap ∧ va_D (va_A (wA cs a 362 tt) sz) ((fun u : (Nat → Int32) => (wA cs a 362 u)) u)) (va_A (wA cs a 362 tt) sz)) 0 0 (va_A (wA cs a 362 tt) sz) := by
  refine Met.ofW (cc := cX8_addOffer) (maxL := 4) (ret := none) (by decide) rfl ?_
  intro p e s m args below meth c s₁ Bd hml hv
  obtain ⟨rfl, hsz, hP, G, hD0⟩ := hv
  have hts := atoms_spec (ws := wsX8_addOffer) Bd.pre
  have hown : s.vm.findClass RX8 = some m.cls := findClass_of_methodNamed Bd.named
  have hlocks := Bd.notSynchronized
  have hx := Bd.exec
  have hb := Bd.bytes
  have hr := Bd.returns
  have C : CallFix p m c cX8_addOffer 4 s _ wsX8_addOffer RX8 := ⟨hx, hb, hml, hown, hts⟩
  obtain ⟨hK, hN⟩ := id G
  subst hsz
  have hD := hD0.self (sz := s.heap.size)
  generalize hAe : va_A (wA cs a 362 tt) s.heap.size = A at hD ⊢
  have hA : ∀ q : Nat, s.heap.size ≤ q → A q := fun q h => by rw [← hAe]; exact Or.inr h
  have hS : va_S A s.heap s.heap [] := va_S.rf
  have hR : RTv p l e ({ frames := 0, cells := 0, slots := 0, locals := 0 }) s m ([.ref a, .int (x1), .int (x2)] : List Value).toArray below meth c cX8_addOffer (MQ below (va_Qv (fun u : (Nat → Int32) => u = res) (fun u t => va_P (dC, dI) vwCl ((fun u : (Nat → Int32) => (wA cs a 362 u)) u) t.heap ∧ va_D A ((fun u : (Nat → Int32) => (wA cs a 362 u)) u)) A) ([.ref a, .int (x1), .int (x2)] : List Value).toArray s 0 0 A) (dC, dI) A (fun u : (Nat → Int32) => (wA cs a 362 u)) res := fun H locs pc ls u dd h hP hD hS => W.vret hx hb hr (fun t ht hW => ⟨⟨u, rfl, by cases h; rfl, by rw [ht]; exact hP, hD⟩, hS.F ht⟩) hS.2.2 dd
  have hl := lv_entry ([.ref a, .int (x1), .int (x2)]) (n := 4) (Nat.le_of_ble_eq_true rfl)
  rw [lg_entry_eq]
  generalize (lg_sl ([.ref a, .int (x1), .int (x2)]) ++ List.replicate (4 - (lg_sl ([.ref a, .int (x1), .int (x2)])).length) Slot.unset).toArray = ls at hl ⊢
  have hl : lv_has ls 4 [(0, .ref a), (1, .int (x1)), (2, .int (x2))] := hl
  unfold f_X8_addOffer at hf
  refine lv_bipush (v := 66) hx hb dX8_addOffer_0 (by decide) ?_
  refine lv_iconst (v := 2) hx hb dX8_addOffer_2 (by decide) ?_
  refine lv_aload_n hx hb dX8_addOffer_3 rfl (lv_at hl 0 rfl) ?_
  refine lv_iconst (v := 5) hx hb dX8_addOffer_4 (by decide) ?_
  obtain ⟨hi1, hf⟩ := gi_e hf
  refine va_iald hx hb hK hP 0 0 rfl rfl hi1 dX8_addOffer_5 ?_
  refine lv_imul hx hb dX8_addOffer_6 ?_
  refine lv_iadd hx hb dX8_addOffer_7 ?_
  refine lv_topi (fun x3_8 ex3_8 => ?_)
  replace hf := lett_s ex3_8 hf
  refine lv_istore_n (lv' := [(3, .int (x3_8)), (0, .ref a), (1, .int (x1)), (2, .int (x2))]) hx hb dX8_addOffer_8 rfl hl (by decide) rfl (fun ls hl => ?_)
  refine lv_aload_n hx hb dX8_addOffer_9 rfl (lv_at hl 1 rfl) ?_
  refine lv_iload_n hx hb dX8_addOffer_10 rfl (lv_at hl 0 rfl) ?_
  refine lv_iload_n hx hb dX8_addOffer_11 rfl (lv_at hl 2 rfl) ?_
  obtain ⟨hi2, hf⟩ := gi_e hf
  refine va_iast hx hb hK hP hD hS 0 0 rfl rfl hi2 dX8_addOffer_12 (fun H locs hP hD hS => ?_)
  obtain ⟨tt_12, hP, hD, hf⟩ := st_nm (ws := fun tt_12 : Nat → Int32 => (wA cs a 362 tt_12)) (upd tt (x3_8).toNatClampNeg (x1)) hP hD hf
  refine lv_aload_n hx hb dX8_addOffer_13 rfl (lv_at hl 1 rfl) ?_
  refine lv_iload_n hx hb dX8_addOffer_14 rfl (lv_at hl 0 rfl) ?_
  refine lv_iconst (v := 1) hx hb dX8_addOffer_15 (by decide) ?_
  refine lv_iadd hx hb dX8_addOffer_16 ?_
  refine lv_iload_n hx hb dX8_addOffer_17 rfl (lv_at hl 3 rfl) ?_
  obtain ⟨hi3, hf⟩ := gi_e hf
  refine va_iast hx hb hK hP hD hS 0 0 rfl rfl hi3 dX8_addOffer_18 (fun H locs hP hD hS => ?_)
  obtain ⟨tt_18, hP, hD, hf⟩ := st_nm (ws := fun tt_18 : Nat → Int32 => (wA cs a 362 tt_18)) (upd tt_12 ((x3_8 + (1 : Int32))).toNatClampNeg (x2)) hP hD hf
  refine lv_aload_n hx hb dX8_addOffer_19 rfl (lv_at hl 1 rfl) ?_
  refine lv_iconst (v := 5) hx hb dX8_addOffer_20 (by decide) ?_
  refine lv_dup2_11 hx hb dX8_addOffer_21 rfl rfl ?_
  obtain ⟨hi4, hf⟩ := gi_e hf
  refine va_iald hx hb hK hP 0 0 rfl rfl hi4 dX8_addOffer_22 ?_
  refine lv_iconst (v := 1) hx hb dX8_addOffer_23 (by decide) ?_
  refine lv_iadd hx hb dX8_addOffer_24 ?_
  obtain ⟨hi5, hf⟩ := gi_e hf
  refine va_iast hx hb hK hP hD hS 0 0 rfl rfl hi5 dX8_addOffer_25 (fun H locs hP hD hS => ?_)
  obtain ⟨tt_25, hP, hD, hf⟩ := st_nm (ws := fun tt_25 : Nat → Int32 => (wA cs a 362 tt_25)) (upd tt_18 ((5 : Int32)).toNatClampNeg (((tt_18 ((5 : Int32)).toNatClampNeg) + (1 : Int32)))) hP hD hf
  exact hR _ _ _ _ _ dX8_addOffer_26 hf hP hD hS

theorem in_X8_offer_X8 : ∀ w ∈ wsX80, w ∈ wsX8_offer := by decide +kernel
def f_X8_offer_20 (M : Ms)  : Option (Int32 × Ms) :=
  bn (f_X8_bad M) fun r21 =>
  some (r21.1, r21.2)
set_option maxHeartbeats 4000000 in
set_option maxRecDepth 100000 in
theorem b_X8_offer_20 {p : Program} {l : Launch} {e : Env} {s : State} {m : MethodId} {args : Array Value} {below : List Frame} {meth : Method} {c : Code} {Q : State → Prop} {dC : Nat → ClassId} {dI : Nat → Nat → Nat} {cs : Nat → ClassId} {A : Nat → Prop} {a : Nat → Nat} {res : Int32 × Ms} (C : CallFix p m c cX8_offer 3 s args wsX8_offer RX8) (G : GE dC dI cs s) (hA : ∀ q : Nat, s.heap.size ≤ q → A q) (hR : RTi p l e ({ frames := 1, cells := 0, slots := 0, locals := 23 }) s m args below meth c cX8_offer Q (dC, dI) A (fun u : Ms => (wM cs a u)) res) (M : Ms)   (H : Heap) (locs : List Loc) (ls : Array Slot) (hl : lv_has ls 3 [(0, .ref (a 0))]) (hP : va_P (dC, dI) vwCl (wM cs a M) H) (hD : va_D A (wM cs a M)) (hS : va_S A s.heap H locs) (hf : f_X8_offer_20 M = some res) : W p l e ({ frames := 1, cells := 0, slots := 0, locals := 23 }) s m args below meth c H locs 0 0 Q (F0 m 20 ls []) := by
  obtain ⟨hx, hb, hml, hown, hts⟩ := id C
  obtain ⟨hK, hN⟩ := id G
  unfold f_X8_offer_20 at hf
  refine lv_aload_n hx hb dX8_offer_20 rfl (lv_at hl 0 rfl) ?_
  obtain ⟨r21, hr21, hf⟩ := bn_e hf
  have hPc := hP.sub (ws' := (wM cs a M)) [0, 1, 2, 3, 4, 5, 6, 7, 8, 9, 10, 11] rfl
  have hDc := hD.sub (ws' := (wM cs a M)) [0, 1, 2, 3, 4, 5, 6, 7, 8, 9, 10, 11] (by decide) rfl
  have hFc := va_free (wc := (wM cs a M)) hD hS hA [0, 1, 2, 3, 4, 5, 6, 7, 8, 9, 10, 11] rfl
  refine va_calli (va_runV (As := []) (rest := []) C (c_X8_bad l dC dI cs a H.size M r21 hr21) (cwV 0 hts gX8_offer_X8_bad rfl rfl rfl (by decide +kernel) ⟨Nat.le_of_ble_eq_true rfl, Nat.le_of_ble_eq_true rfl⟩) ⟨(fun a U g mk q => ⟨q.1, q.2.1, q.2.2.1, GE.calling q.2.2.2.1, q.2.2.2.2⟩), va_recv hK hPc (ci := 8) (q0 := 0) rfl rfl, (fun U hU hW => ⟨rfl, by rw [hU], by rw [hU]; exact hPc, GE.warm hW G, hDc.weaken (fun _ _ _ _ => trivial)⟩)⟩ rfl rfl hl.1 rfl (lv_room (Nat.le_of_ble_eq_true rfl)) dX8_offer_21 ⟨Nat.le_of_ble_eq_true rfl, Nat.le_of_ble_eq_true rfl⟩) hS (fun q _ h => hFc q h) hFc (fun q u t H1 locs ht hvm hw hB hz1 hk1 hS => ?_)
  obtain ⟨rfl, rfl⟩ := hw
  obtain ⟨hP1, hD1⟩ := hB
  rw [ht] at hP1
  obtain ⟨hP, hD⟩ := va_join (wr := []) (w1 := (wM cs a r21.2)) hP hD [0, 1, 2, 3, 4, 5, 6, 7, 8, 9, 10, 11] [] rfl rfl (by decide) (by decide) hk1 hFc hP1 hD1
  generalize H1 = H at hP hS ⊢
  have hP := hP.sub (ws' := (wM cs a r21.2)) [0, 1, 2, 3, 4, 5, 6, 7, 8, 9, 10, 11] rfl
  have hD := hD.sub (ws' := (wM cs a r21.2)) [0, 1, 2, 3, 4, 5, 6, 7, 8, 9, 10, 11] (by decide) rfl
  exact hR _ _ _ _ _ _ dX8_offer_24 hf hP hD hS
def f_X8_offer (x1 : Int32) (x2 : Int32) (M : Ms) : Option (Int32 × Ms) :=
  bn (f_X8_in x1 (1 : Int32) (99 : Int32)) fun r4 =>
  if r4 = 0 then (
    f_X8_offer_20 M
  ) else (
    bn (f_X8_in x2 (1 : Int32) (12 : Int32)) fun r14 =>
    if r14 = 0 then (
      f_X8_offer_20 M
    ) else (
      gi ((5 : Int32)) 362 <|
      if ((M.2.2 0) ((5 : Int32)).toNatClampNeg) = (8 : Int32) then (
        bn (f_X8_full M) fun r37 =>
        some (r37.1, r37.2)
      ) else (
        bn (f_X8_addOffer x1 x2 (M.2.2 0)) fun r47 =>
        lett ((M.1, M.2.1, va_up M.2.2 0 (r47))) fun M_47 =>
        gi ((5 : Int32)) 362 <|
        some ((((M_47.2.2 0) ((5 : Int32)).toNatClampNeg) - (1 : Int32)), M_47)
      )
    )
  )
set_option maxHeartbeats 4000000 in
set_option maxRecDepth 100000 in
theorem c_X8_offer (l : Launch) (dC : Nat → ClassId) (dI : Nat → Nat → Nat) (cs : Nat → ClassId) (a : Nat → Nat) (sz : Nat) (M : Ms) (x1 : Int32) (x2 : Int32) (res : Int32 × Ms) (hf : f_X8_offer x1 x2 M = some res) : Met l yX8_offer wsX8_offer ({ frames := 1, cells := 0, slots := 0, locals := 23 }) (va_Pc [.ref (a 0), .int (x1), .int (x2)] (fun U => U.heap.size = sz ∧ va_P (dC, dI) vwCl (wM cs a M) U.heap ∧ GE dC dI cs U ∧ va_D (fun _ => True) (wM cs a M))) (va_Qi (fun r (u : Ms) => r = res.1 ∧ u = res.2) (fun u t => va_P (dC, dI) vwCl ((fun u : Ms => (wM cs a u)) u) t.heap ∧ va_D (va_A (wM cs a M) sz) ((fun u : Ms => (wM cs a u)) u)) (va_A (wM cs a M) sz)) 0 0 (va_A (wM cs a M) sz) := by
  refine Met.ofW (cc := cX8_offer) (maxL := 3) (ret := (some .int)) (by decide) rfl ?_
  intro p e s m args below meth c s₁ Bd hml hv
  obtain ⟨rfl, hsz, hP, G, hD0⟩ := hv
  have hts := atoms_spec (ws := wsX8_offer) Bd.pre
  have hown : s.vm.findClass RX8 = some m.cls := findClass_of_methodNamed Bd.named
  have hlocks := Bd.notSynchronized
  have hx := Bd.exec
  have hb := Bd.bytes
  have hr := Bd.returns
  have C : CallFix p m c cX8_offer 3 s _ wsX8_offer RX8 := ⟨hx, hb, hml, hown, hts⟩
  obtain ⟨hK, hN⟩ := id G
  subst hsz
  have hD := hD0.self (sz := s.heap.size)
  generalize hAe : va_A (wM cs a M) s.heap.size = A at hD ⊢
  have hA : ∀ q : Nat, s.heap.size ≤ q → A q := fun q h => by rw [← hAe]; exact Or.inr h
  have hS : va_S A s.heap s.heap [] := va_S.rf
  have hR : RTi p l e ({ frames := 1, cells := 0, slots := 0, locals := 23 }) s m ([.ref (a 0), .int (x1), .int (x2)] : List Value).toArray below meth c cX8_offer (MQ below (va_Qi (fun r (u : Ms) => r = res.1 ∧ u = res.2) (fun u t => va_P (dC, dI) vwCl ((fun u : Ms => (wM cs a u)) u) t.heap ∧ va_D A ((fun u : Ms => (wM cs a u)) u)) A) ([.ref (a 0), .int (x1), .int (x2)] : List Value).toArray s 0 0 A) (dC, dI) A (fun u : Ms => (wM cs a u)) res := fun H locs pc ls r u dd h hP hD hS => W.iret hx hb hr (fun t ht hW => ⟨⟨r, u, rfl, by cases h; exact ⟨rfl, rfl⟩, by rw [ht]; exact hP, hD⟩, hS.F ht⟩) hS.2.2 dd
  have hl := lv_entry ([.ref (a 0), .int (x1), .int (x2)]) (n := 3) (Nat.le_of_ble_eq_true rfl)
  rw [lg_entry_eq]
  generalize (lg_sl ([.ref (a 0), .int (x1), .int (x2)]) ++ List.replicate (3 - (lg_sl ([.ref (a 0), .int (x1), .int (x2)])).length) Slot.unset).toArray = ls at hl ⊢
  have hl : lv_has ls 3 [(0, .ref (a 0)), (1, .int (x1)), (2, .int (x2))] := hl
  unfold f_X8_offer at hf
  refine lv_iload_n hx hb dX8_offer_0 rfl (lv_at hl 1 rfl) ?_
  refine lv_iconst (v := 1) hx hb dX8_offer_1 (by decide) ?_
  refine lv_bipush (v := 99) hx hb dX8_offer_2 (by decide) ?_
  obtain ⟨r4, hr4, hf⟩ := bn_e hf
  have hPc := hP.sub (ws' := ([] : va_W)) [] rfl
  refine vp_callSi (W.runS (As := [.int (x1), .int ((1 : Int32)), .int ((99 : Int32))]) (rest := []) C (c_X8_in l dC dI cs x1 (1 : Int32) (99 : Int32) r4 hr4) (va_cwS 3 hts gX8_offer_X8_in rfl rfl rfl (by decide +kernel) ⟨Nat.le_of_ble_eq_true rfl, Nat.le_of_ble_eq_true rfl⟩) ⟨(fun a U g mk q => ⟨q.1, q.2.1, GE.calling q.2.2⟩), (fun U hU hW => ⟨rfl, by rw [hU]; exact hPc, GE.warm hW G⟩)⟩ rfl rfl hl.1 rfl (lv_room (Nat.le_of_ble_eq_true rfl)) dX8_offer_4 ⟨Nat.le_of_ble_eq_true rfl, Nat.le_of_ble_eq_true rfl⟩) (fun qr4 hqr4 => ?_)
  obtain ⟨hqr4, hnr4⟩ := hqr4
  obtain rfl := hqr4.symm
  refine lv_if_eq (tgt := 20) hx hb dX8_offer_7 (by decide) (fun c1 => ?_) (fun c1 => ?_)
  · replace hf := it_t c1 hf
    exact b_X8_offer_20 C G hA hR M _ _ _ (lv_sub hl [0] rfl) hP hD hS hf
  · replace hf := it_f c1 hf
    refine lv_iload_n hx hb dX8_offer_10 rfl (lv_at hl 2 rfl) ?_
    refine lv_iconst (v := 1) hx hb dX8_offer_11 (by decide) ?_
    refine lv_bipush (v := 12) hx hb dX8_offer_12 (by decide) ?_
    obtain ⟨r14, hr14, hf⟩ := bn_e hf
    have hPc := hP.sub (ws' := ([] : va_W)) [] rfl
    refine vp_callSi (W.runS (As := [.int (x2), .int ((1 : Int32)), .int ((12 : Int32))]) (rest := []) C (c_X8_in l dC dI cs x2 (1 : Int32) (12 : Int32) r14 hr14) (va_cwS 3 hts gX8_offer_X8_in rfl rfl rfl (by decide +kernel) ⟨Nat.le_of_ble_eq_true rfl, Nat.le_of_ble_eq_true rfl⟩) ⟨(fun a U g mk q => ⟨q.1, q.2.1, GE.calling q.2.2⟩), (fun U hU hW => ⟨rfl, by rw [hU]; exact hPc, GE.warm hW G⟩)⟩ rfl rfl hl.1 rfl (lv_room (Nat.le_of_ble_eq_true rfl)) dX8_offer_14 ⟨Nat.le_of_ble_eq_true rfl, Nat.le_of_ble_eq_true rfl⟩) (fun qr14 hqr14 => ?_)
    obtain ⟨hqr14, hnr14⟩ := hqr14
    obtain rfl := hqr14.symm
    refine lv_if_ne (tgt := 25) hx hb dX8_offer_17 (by decide) (fun c2 => ?_) (fun c2 => ?_)
    · replace hf := it_f c2 hf
      refine lv_aload_n hx hb dX8_offer_25 rfl (lv_at hl 0 rfl) ?_
      refine va_get (D := (dC, dI)) (ci := 8) (v := .ref (a 1)) (C := RX8) (T := TX8) (N := 20) hx hb hts in_X8_offer_X8 hown hK hP 0 rfl rfl 0 (by decide) (hts (.fieldLink RX8 7 "BackLoansModel" "now" "[I") (by decide +kernel)) (fun _ h9 => h9) rfl dX8_offer_26 ?_
      refine lv_iconst (v := 5) hx hb dX8_offer_29 (by decide) ?_
      obtain ⟨hi3, hf⟩ := gi_e hf
      refine va_iald hx hb hK hP 1 0 rfl rfl hi3 dX8_offer_30 ?_
      refine lv_bipush (v := 8) hx hb dX8_offer_31 (by decide) ?_
      refine lv_icmp_ne (tgt := 41) hx hb dX8_offer_33 (by decide) (fun c4 => ?_) (fun c4 => ?_)
      · replace hf := it_f c4 hf
        refine lv_aload_n hx hb dX8_offer_41 rfl (lv_at hl 0 rfl) ?_
        refine va_get (D := (dC, dI)) (ci := 8) (v := .ref (a 1)) (C := RX8) (T := TX8) (N := 20) hx hb hts in_X8_offer_X8 hown hK hP 0 rfl rfl 0 (by decide) (hts (.fieldLink RX8 7 "BackLoansModel" "now" "[I") (by decide +kernel)) (fun _ h9 => h9) rfl dX8_offer_42 ?_
        refine lv_iload_n hx hb dX8_offer_45 rfl (lv_at hl 1 rfl) ?_
        refine lv_iload_n hx hb dX8_offer_46 rfl (lv_at hl 2 rfl) ?_
        obtain ⟨r47, hr47, hf⟩ := bn_e hf
        have hPc := hP.sub (ws' := (wA cs (a 1) 362 (M.2.2 0))) [1] rfl
        have hDc := hD.sub (ws' := (wA cs (a 1) 362 (M.2.2 0))) [1] (by decide) rfl
        have hFc := va_free (wc := (wA cs (a 1) 362 (M.2.2 0))) hD hS hA [1] rfl
        refine va_callv (va_runS (As := [.ref (a 1), .int (x1), .int (x2)]) (rest := []) C (c_X8_addOffer l dC dI cs (a 1) s.heap.size (M.2.2 0) x1 x2 r47 hr47) (va_cwS 3 hts gX8_offer_X8_addOffer rfl rfl rfl (by decide +kernel) ⟨Nat.le_of_ble_eq_true rfl, Nat.le_of_ble_eq_true rfl⟩) ⟨(fun a U g mk q => ⟨q.1, q.2.1, q.2.2.1, GE.calling q.2.2.2.1, q.2.2.2.2⟩), (fun U hU hW => ⟨rfl, by rw [hU], by rw [hU]; exact hPc, GE.warm hW G, hDc.weaken (fun _ _ _ _ => trivial)⟩)⟩ rfl rfl hl.1 rfl (lv_room (Nat.le_of_ble_eq_true rfl)) dX8_offer_47 ⟨Nat.le_of_ble_eq_true rfl, Nat.le_of_ble_eq_true rfl⟩) hS (fun q _ h => hFc q h) hFc (fun u t H1 locs ht hvm hw hB hz1 hk1 hS => ?_)
        obtain rfl := hw.symm
        obtain ⟨hP1, hD1⟩ := hB
        rw [ht] at hP1
        obtain ⟨hP, hD⟩ := va_join (wr := [0, 2, 3, 4, 5, 6, 7, 8, 9, 10, 11].filterMap (fun i => ((wM cs a M))[i]?)) (w1 := (wA cs (a 1) 362 r47)) hP hD [1] [0, 2, 3, 4, 5, 6, 7, 8, 9, 10, 11] rfl rfl (by decide) (by decide) hk1 hFc hP1 hD1
        generalize H1 = H at hP hS ⊢
        have hP := hP.sub (ws' := (wM cs a (M.1, M.2.1, va_up M.2.2 0 (r47)))) [0, 11, 1, 2, 3, 4, 5, 6, 7, 8, 9, 10] rfl
        have hD := hD.sub (ws' := (wM cs a (M.1, M.2.1, va_up M.2.2 0 (r47)))) [0, 11, 1, 2, 3, 4, 5, 6, 7, 8, 9, 10] (by decide) rfl
        obtain ⟨M_47, hP, hD, hf⟩ := st_nm (ws := fun M_47 : Ms => (wM cs a M_47)) ((M.1, M.2.1, va_up M.2.2 0 (r47))) hP hD hf
        refine lv_aload_n hx hb dX8_offer_50 rfl (lv_at hl 0 rfl) ?_
        refine va_get (D := (dC, dI)) (ci := 8) (v := .ref (a 1)) (C := RX8) (T := TX8) (N := 20) hx hb hts in_X8_offer_X8 hown hK hP 0 rfl rfl 0 (by decide) (hts (.fieldLink RX8 7 "BackLoansModel" "now" "[I") (by decide +kernel)) (fun _ h9 => h9) rfl dX8_offer_51 ?_
        refine lv_iconst (v := 5) hx hb dX8_offer_54 (by decide) ?_
        obtain ⟨hi5, hf⟩ := gi_e hf
        refine va_iald hx hb hK hP 1 0 rfl rfl hi5 dX8_offer_55 ?_
        refine lv_iconst (v := 1) hx hb dX8_offer_56 (by decide) ?_
        refine lv_isub hx hb dX8_offer_57 ?_
        exact hR _ _ _ _ _ _ dX8_offer_58 hf hP hD hS
      · replace hf := it_t c4 hf
        refine lv_aload_n hx hb dX8_offer_36 rfl (lv_at hl 0 rfl) ?_
        obtain ⟨r37, hr37, hf⟩ := bn_e hf
        have hPc := hP.sub (ws' := (wM cs a M)) [0, 1, 2, 3, 4, 5, 6, 7, 8, 9, 10, 11] rfl
        have hDc := hD.sub (ws' := (wM cs a M)) [0, 1, 2, 3, 4, 5, 6, 7, 8, 9, 10, 11] (by decide) rfl
        have hFc := va_free (wc := (wM cs a M)) hD hS hA [0, 1, 2, 3, 4, 5, 6, 7, 8, 9, 10, 11] rfl
        refine va_calli (va_runV (As := []) (rest := []) C (c_X8_full l dC dI cs a s.heap.size M r37 hr37) (cwV 0 hts gX8_offer_X8_full rfl rfl rfl (by decide +kernel) ⟨Nat.le_of_ble_eq_true rfl, Nat.le_of_ble_eq_true rfl⟩) ⟨(fun a U g mk q => ⟨q.1, q.2.1, q.2.2.1, GE.calling q.2.2.2.1, q.2.2.2.2⟩), va_recv hK hPc (ci := 8) (q0 := 0) rfl rfl, (fun U hU hW => ⟨rfl, by rw [hU], by rw [hU]; exact hPc, GE.warm hW G, hDc.weaken (fun _ _ _ _ => trivial)⟩)⟩ rfl rfl hl.1 rfl (lv_room (Nat.le_of_ble_eq_true rfl)) dX8_offer_37 ⟨Nat.le_of_ble_eq_true rfl, Nat.le_of_ble_eq_true rfl⟩) hS (fun q _ h => hFc q h) hFc (fun q u t H1 locs ht hvm hw hB hz1 hk1 hS => ?_)
        obtain ⟨rfl, rfl⟩ := hw
        obtain ⟨hP1, hD1⟩ := hB
        rw [ht] at hP1
        obtain ⟨hP, hD⟩ := va_join (wr := []) (w1 := (wM cs a r37.2)) hP hD [0, 1, 2, 3, 4, 5, 6, 7, 8, 9, 10, 11] [] rfl rfl (by decide) (by decide) hk1 hFc hP1 hD1
        generalize H1 = H at hP hS ⊢
        have hP := hP.sub (ws' := (wM cs a r37.2)) [0, 1, 2, 3, 4, 5, 6, 7, 8, 9, 10, 11] rfl
        have hD := hD.sub (ws' := (wM cs a r37.2)) [0, 1, 2, 3, 4, 5, 6, 7, 8, 9, 10, 11] (by decide) rfl
        exact hR _ _ _ _ _ _ dX8_offer_40 hf hP hD hS
    · replace hf := it_t c2 hf
      exact b_X8_offer_20 C G hA hR M _ _ _ (lv_sub hl [0] rfl) hP hD hS hf

theorem in_X8_none_X8 : ∀ w ∈ wsX80, w ∈ wsX8_none := by decide +kernel
def f_X8_none  (M : Ms) : Option (Int32 × Ms) :=
  gi ((5 : Int32)) 362 <|
  lett ((M.2.2 0) ((5 : Int32)).toNatClampNeg) fun x1_6 =>
  gi ((5 : Int32)) 362 <|
  lett ((M.1, M.2.1, va_up M.2.2 0 (upd (M.2.2 0) ((5 : Int32)).toNatClampNeg ((0 : Int32))))) fun M_13 =>
  some (x1_6, M_13)
set_option maxHeartbeats 4000000 in
set_option maxRecDepth 100000 in
theorem c_X8_none (l : Launch) (dC : Nat → ClassId) (dI : Nat → Nat → Nat) (cs : Nat → ClassId) (a : Nat → Nat) (sz : Nat) (M : Ms)  (res : Int32 × Ms) (hf : f_X8_none M = some res) : Met l yX8_none wsX8_none ({ frames := 0, cells := 0, slots := 0, locals := 0 }) (va_Pc [.ref (a 0)] (fun U => U.heap.size = sz ∧ va_P (dC, dI) vwCl (wM cs a M) U.heap ∧ GE dC dI cs U ∧ va_D (fun _ => True) (wM cs a M))) (va_Qi (fun r (u : Ms) => r = res.1 ∧ u = res.2) (fun u t => va_P (dC, dI) vwCl ((fun u : Ms => (wM cs a u)) u) t.heap ∧ va_D (va_A (wM cs a M) sz) ((fun u : Ms => (wM cs a u)) u)) (va_A (wM cs a M) sz)) 0 0 (va_A (wM cs a M) sz) := by
  refine Met.ofW (cc := cX8_none) (maxL := 2) (ret := (some .int)) (by decide) rfl ?_
  intro p e s m args below meth c s₁ Bd hml hv
  obtain ⟨rfl, hsz, hP, G, hD0⟩ := hv
  have hts := atoms_spec (ws := wsX8_none) Bd.pre
  have hown : s.vm.findClass RX8 = some m.cls := findClass_of_methodNamed Bd.named
  have hlocks := Bd.notSynchronized
  have hx := Bd.exec
  have hb := Bd.bytes
  have hr := Bd.returns
  have C : CallFix p m c cX8_none 2 s _ wsX8_none RX8 := ⟨hx, hb, hml, hown, hts⟩
  obtain ⟨hK, hN⟩ := id G
  subst hsz
  have hD := hD0.self (sz := s.heap.size)
  generalize hAe : va_A (wM cs a M) s.heap.size = A at hD ⊢
  have hA : ∀ q : Nat, s.heap.size ≤ q → A q := fun q h => by rw [← hAe]; exact Or.inr h
  have hS : va_S A s.heap s.heap [] := va_S.rf
  have hR : RTi p l e ({ frames := 0, cells := 0, slots := 0, locals := 0 }) s m ([.ref (a 0)] : List Value).toArray below meth c cX8_none (MQ below (va_Qi (fun r (u : Ms) => r = res.1 ∧ u = res.2) (fun u t => va_P (dC, dI) vwCl ((fun u : Ms => (wM cs a u)) u) t.heap ∧ va_D A ((fun u : Ms => (wM cs a u)) u)) A) ([.ref (a 0)] : List Value).toArray s 0 0 A) (dC, dI) A (fun u : Ms => (wM cs a u)) res := fun H locs pc ls r u dd h hP hD hS => W.iret hx hb hr (fun t ht hW => ⟨⟨r, u, rfl, by cases h; exact ⟨rfl, rfl⟩, by rw [ht]; exact hP, hD⟩, hS.F ht⟩) hS.2.2 dd
  have hl := lv_entry ([.ref (a 0)]) (n := 2) (Nat.le_of_ble_eq_true rfl)
  rw [lg_entry_eq]
  generalize (lg_sl ([.ref (a 0)]) ++ List.replicate (2 - (lg_sl ([.ref (a 0)])).length) Slot.unset).toArray = ls at hl ⊢
  have hl : lv_has ls 2 [(0, .ref (a 0))] := hl
  unfold f_X8_none at hf
  refine lv_aload_n hx hb dX8_none_0 rfl (lv_at hl 0 rfl) ?_
  refine va_get (D := (dC, dI)) (ci := 8) (v := .ref (a 1)) (C := RX8) (T := TX8) (N := 20) hx hb hts in_X8_none_X8 hown hK hP 0 rfl rfl 0 (by decide) (hts (.fieldLink RX8 7 "BackLoansModel" "now" "[I") (by decide +kernel)) (fun _ h9 => h9) rfl dX8_none_1 ?_
  refine lv_iconst (v := 5) hx hb dX8_none_4 (by decide) ?_
  obtain ⟨hi1, hf⟩ := gi_e hf
  refine va_iald hx hb hK hP 1 0 rfl rfl hi1 dX8_none_5 ?_
  refine lv_topi (fun x1_6 ex1_6 => ?_)
  replace hf := lett_s ex1_6 hf
  refine lv_istore_n (lv' := [(1, .int (x1_6)), (0, .ref (a 0))]) hx hb dX8_none_6 rfl hl (by decide) rfl (fun ls hl => ?_)
  refine lv_aload_n hx hb dX8_none_7 rfl (lv_at hl 1 rfl) ?_
  refine va_get (D := (dC, dI)) (ci := 8) (v := .ref (a 1)) (C := RX8) (T := TX8) (N := 20) hx hb hts in_X8_none_X8 hown hK hP 0 rfl rfl 0 (by decide) (hts (.fieldLink RX8 7 "BackLoansModel" "now" "[I") (by decide +kernel)) (fun _ h9 => h9) rfl dX8_none_8 ?_
  refine lv_iconst (v := 5) hx hb dX8_none_11 (by decide) ?_
  refine lv_iconst (v := 0) hx hb dX8_none_12 (by decide) ?_
  obtain ⟨hi2, hf⟩ := gi_e hf
  refine va_iast hx hb hK hP hD hS 1 0 rfl rfl hi2 dX8_none_13 (fun H locs hP hD hS => ?_)
  obtain ⟨M_13, hP, hD, hf⟩ := st_nm (ws := fun M_13 : Ms => (wM cs a M_13)) ((M.1, M.2.1, va_up M.2.2 0 (upd (M.2.2 0) ((5 : Int32)).toNatClampNeg ((0 : Int32))))) hP hD hf
  refine lv_iload_n hx hb dX8_none_14 rfl (lv_at hl 0 rfl) ?_
  exact hR _ _ _ _ _ _ dX8_none_15 hf hP hD hS

theorem in_X8_type_X8 : ∀ w ∈ wsX80, w ∈ wsX8_type := by decide +kernel
def f_X8_type (x1 : Int32) (M : Ms) : Option (Int32 × Ms) :=
  bn (f_X8_in x1 (0 : Int32) (127 : Int32)) fun r4 =>
  if r4 = 0 then (
    bn (f_X8_bad M) fun r11 =>
    some (r11.1, r11.2)
  ) else (
    if (M.1 0) = (150 : Int32) then (
      bn (f_X8_full M) fun r26 =>
      some (r26.1, r26.2)
    ) else (
      gi ((M.1 0)) 150 <|
      lett ((M.1, M.2.1, va_up M.2.2 6 (upd (M.2.2 6) ((M.1 0)).toNatClampNeg (x1)))) fun M_39 =>
      lett ((upd M_39.1 0 (((M_39.1 0) + (1 : Int32))), M_39.2)) fun M_47 =>
      some ((M_47.1 0), M_47)
    )
  )
set_option maxHeartbeats 4000000 in
set_option maxRecDepth 100000 in
theorem c_X8_type (l : Launch) (dC : Nat → ClassId) (dI : Nat → Nat → Nat) (cs : Nat → ClassId) (a : Nat → Nat) (sz : Nat) (M : Ms) (x1 : Int32) (res : Int32 × Ms) (hf : f_X8_type x1 M = some res) : Met l yX8_type wsX8_type ({ frames := 1, cells := 0, slots := 0, locals := 22 }) (va_Pc [.ref (a 0), .int (x1)] (fun U => U.heap.size = sz ∧ va_P (dC, dI) vwCl (wM cs a M) U.heap ∧ GE dC dI cs U ∧ va_D (fun _ => True) (wM cs a M))) (va_Qi (fun r (u : Ms) => r = res.1 ∧ u = res.2) (fun u t => va_P (dC, dI) vwCl ((fun u : Ms => (wM cs a u)) u) t.heap ∧ va_D (va_A (wM cs a M) sz) ((fun u : Ms => (wM cs a u)) u)) (va_A (wM cs a M) sz)) 0 0 (va_A (wM cs a M) sz) := by
  refine Met.ofW (cc := cX8_type) (maxL := 2) (ret := (some .int)) (by decide) rfl ?_
  intro p e s m args below meth c s₁ Bd hml hv
  obtain ⟨rfl, hsz, hP, G, hD0⟩ := hv
  have hts := atoms_spec (ws := wsX8_type) Bd.pre
  have hown : s.vm.findClass RX8 = some m.cls := findClass_of_methodNamed Bd.named
  have hlocks := Bd.notSynchronized
  have hx := Bd.exec
  have hb := Bd.bytes
  have hr := Bd.returns
  have C : CallFix p m c cX8_type 2 s _ wsX8_type RX8 := ⟨hx, hb, hml, hown, hts⟩
  obtain ⟨hK, hN⟩ := id G
  subst hsz
  have hD := hD0.self (sz := s.heap.size)
  generalize hAe : va_A (wM cs a M) s.heap.size = A at hD ⊢
  have hA : ∀ q : Nat, s.heap.size ≤ q → A q := fun q h => by rw [← hAe]; exact Or.inr h
  have hS : va_S A s.heap s.heap [] := va_S.rf
  have hR : RTi p l e ({ frames := 1, cells := 0, slots := 0, locals := 22 }) s m ([.ref (a 0), .int (x1)] : List Value).toArray below meth c cX8_type (MQ below (va_Qi (fun r (u : Ms) => r = res.1 ∧ u = res.2) (fun u t => va_P (dC, dI) vwCl ((fun u : Ms => (wM cs a u)) u) t.heap ∧ va_D A ((fun u : Ms => (wM cs a u)) u)) A) ([.ref (a 0), .int (x1)] : List Value).toArray s 0 0 A) (dC, dI) A (fun u : Ms => (wM cs a u)) res := fun H locs pc ls r u dd h hP hD hS => W.iret hx hb hr (fun t ht hW => ⟨⟨r, u, rfl, by cases h; exact ⟨rfl, rfl⟩, by rw [ht]; exact hP, hD⟩, hS.F ht⟩) hS.2.2 dd
  have hl := lv_entry ([.ref (a 0), .int (x1)]) (n := 2) (Nat.le_of_ble_eq_true rfl)
  rw [lg_entry_eq]
  generalize (lg_sl ([.ref (a 0), .int (x1)]) ++ List.replicate (2 - (lg_sl ([.ref (a 0), .int (x1)])).length) Slot.unset).toArray = ls at hl ⊢
  have hl : lv_has ls 2 [(0, .ref (a 0)), (1, .int (x1))] := hl
  unfold f_X8_type at hf
  refine lv_iload_n hx hb dX8_type_0 rfl (lv_at hl 1 rfl) ?_
  refine lv_iconst (v := 0) hx hb dX8_type_1 (by decide) ?_
  refine lv_bipush (v := 127) hx hb dX8_type_2 (by decide) ?_
  obtain ⟨r4, hr4, hf⟩ := bn_e hf
  have hPc := hP.sub (ws' := ([] : va_W)) [] rfl
  refine vp_callSi (W.runS (As := [.int (x1), .int ((0 : Int32)), .int ((127 : Int32))]) (rest := []) C (c_X8_in l dC dI cs x1 (0 : Int32) (127 : Int32) r4 hr4) (va_cwS 3 hts gX8_type_X8_in rfl rfl rfl (by decide +kernel) ⟨Nat.le_of_ble_eq_true rfl, Nat.le_of_ble_eq_true rfl⟩) ⟨(fun a U g mk q => ⟨q.1, q.2.1, GE.calling q.2.2⟩), (fun U hU hW => ⟨rfl, by rw [hU]; exact hPc, GE.warm hW G⟩)⟩ rfl rfl hl.1 rfl (lv_room (Nat.le_of_ble_eq_true rfl)) dX8_type_4 ⟨Nat.le_of_ble_eq_true rfl, Nat.le_of_ble_eq_true rfl⟩) (fun qr4 hqr4 => ?_)
  obtain ⟨hqr4, hnr4⟩ := hqr4
  obtain rfl := hqr4.symm
  refine lv_if_ne (tgt := 15) hx hb dX8_type_7 (by decide) (fun c1 => ?_) (fun c1 => ?_)
  · replace hf := it_f c1 hf
    refine lv_aload_n hx hb dX8_type_15 rfl (lv_at hl 0 rfl) ?_
    refine va_get (D := (dC, dI)) (ci := 8) (v := .int ((M.1 0))) (C := RX8) (T := TX8) (N := 20) hx hb hts in_X8_type_X8 hown hK hP 0 rfl rfl 7 (by decide) (hts (.fieldLink RX8 79 "BackLoansModel" "typed" "I") (by decide +kernel)) (fun _ h9 => h9) rfl dX8_type_16 ?_
    refine lv_sipush (v := 150) hx hb dX8_type_19 (by decide) ?_
    refine lv_icmp_ne (tgt := 30) hx hb dX8_type_22 (by decide) (fun c2 => ?_) (fun c2 => ?_)
    · replace hf := it_f c2 hf
      refine lv_aload_n hx hb dX8_type_30 rfl (lv_at hl 0 rfl) ?_
      refine va_get (D := (dC, dI)) (ci := 8) (v := .ref (a 7)) (C := RX8) (T := TX8) (N := 20) hx hb hts in_X8_type_X8 hown hK hP 0 rfl rfl 6 (by decide) (hts (.fieldLink RX8 29 "BackLoansModel" "text" "[I") (by decide +kernel)) (fun _ h9 => h9) rfl dX8_type_31 ?_
      refine lv_aload_n hx hb dX8_type_34 rfl (lv_at hl 0 rfl) ?_
      refine va_get (D := (dC, dI)) (ci := 8) (v := .int ((M.1 0))) (C := RX8) (T := TX8) (N := 20) hx hb hts in_X8_type_X8 hown hK hP 0 rfl rfl 7 (by decide) (hts (.fieldLink RX8 79 "BackLoansModel" "typed" "I") (by decide +kernel)) (fun _ h9 => h9) rfl dX8_type_35 ?_
      refine lv_iload_n hx hb dX8_type_38 rfl (lv_at hl 1 rfl) ?_
      obtain ⟨hi3, hf⟩ := gi_e hf
      refine va_iast hx hb hK hP hD hS 7 0 rfl rfl hi3 dX8_type_39 (fun H locs hP hD hS => ?_)
      obtain ⟨M_39, hP, hD, hf⟩ := st_nm (ws := fun M_39 : Ms => (wM cs a M_39)) ((M.1, M.2.1, va_up M.2.2 6 (upd (M.2.2 6) ((M.1 0)).toNatClampNeg (x1)))) hP hD hf
      refine lv_aload_n hx hb dX8_type_40 rfl (lv_at hl 0 rfl) ?_
      refine lv_dup hx hb dX8_type_41 rfl ?_
      refine va_get (D := (dC, dI)) (ci := 8) (v := .int ((M_39.1 0))) (C := RX8) (T := TX8) (N := 20) hx hb hts in_X8_type_X8 hown hK hP 0 rfl rfl 7 (by decide) (hts (.fieldLink RX8 79 "BackLoansModel" "typed" "I") (by decide +kernel)) (fun _ h9 => h9) rfl dX8_type_42 ?_
      refine lv_iconst (v := 1) hx hb dX8_type_45 (by decide) ?_
      refine lv_iadd hx hb dX8_type_46 ?_
      refine va_put (D := (dC, dI)) (ci := 8) (v := .int (((M_39.1 0) + (1 : Int32)))) (ty := .int) (C := RX8) (T := TX8) (N := 20) hx hb hts in_X8_type_X8 tyX8 tyX8_ok nmX8 hown hK hP hD hS 0 rfl rfl 7 (by decide) (hts (.fieldLink RX8 79 "BackLoansModel" "typed" "I") (by decide +kernel)) (fun _ h9 => h9) rfl (by decide +kernel) rfl rfl (Nat.le_of_ble_eq_true rfl) dX8_type_47 (fun H locs hP hD hS => ?_)
      obtain ⟨M_47, hP, hD, hf⟩ := st_nm (ws := fun M_47 : Ms => (wM cs a M_47)) ((upd M_39.1 0 (((M_39.1 0) + (1 : Int32))), M_39.2)) hP hD hf
      refine lv_aload_n hx hb dX8_type_50 rfl (lv_at hl 0 rfl) ?_
      refine va_get (D := (dC, dI)) (ci := 8) (v := .int ((M_47.1 0))) (C := RX8) (T := TX8) (N := 20) hx hb hts in_X8_type_X8 hown hK hP 0 rfl rfl 7 (by decide) (hts (.fieldLink RX8 79 "BackLoansModel" "typed" "I") (by decide +kernel)) (fun _ h9 => h9) rfl dX8_type_51 ?_
      exact hR _ _ _ _ _ _ dX8_type_54 hf hP hD hS
    · replace hf := it_t c2 hf
      refine lv_aload_n hx hb dX8_type_25 rfl (lv_at hl 0 rfl) ?_
      obtain ⟨r26, hr26, hf⟩ := bn_e hf
      have hPc := hP.sub (ws' := (wM cs a M)) [0, 1, 2, 3, 4, 5, 6, 7, 8, 9, 10, 11] rfl
      have hDc := hD.sub (ws' := (wM cs a M)) [0, 1, 2, 3, 4, 5, 6, 7, 8, 9, 10, 11] (by decide) rfl
      have hFc := va_free (wc := (wM cs a M)) hD hS hA [0, 1, 2, 3, 4, 5, 6, 7, 8, 9, 10, 11] rfl
      refine va_calli (va_runV (As := []) (rest := []) C (c_X8_full l dC dI cs a s.heap.size M r26 hr26) (cwV 0 hts gX8_type_X8_full rfl rfl rfl (by decide +kernel) ⟨Nat.le_of_ble_eq_true rfl, Nat.le_of_ble_eq_true rfl⟩) ⟨(fun a U g mk q => ⟨q.1, q.2.1, q.2.2.1, GE.calling q.2.2.2.1, q.2.2.2.2⟩), va_recv hK hPc (ci := 8) (q0 := 0) rfl rfl, (fun U hU hW => ⟨rfl, by rw [hU], by rw [hU]; exact hPc, GE.warm hW G, hDc.weaken (fun _ _ _ _ => trivial)⟩)⟩ rfl rfl hl.1 rfl (lv_room (Nat.le_of_ble_eq_true rfl)) dX8_type_26 ⟨Nat.le_of_ble_eq_true rfl, Nat.le_of_ble_eq_true rfl⟩) hS (fun q _ h => hFc q h) hFc (fun q u t H1 locs ht hvm hw hB hz1 hk1 hS => ?_)
      obtain ⟨rfl, rfl⟩ := hw
      obtain ⟨hP1, hD1⟩ := hB
      rw [ht] at hP1
      obtain ⟨hP, hD⟩ := va_join (wr := []) (w1 := (wM cs a r26.2)) hP hD [0, 1, 2, 3, 4, 5, 6, 7, 8, 9, 10, 11] [] rfl rfl (by decide) (by decide) hk1 hFc hP1 hD1
      generalize H1 = H at hP hS ⊢
      have hP := hP.sub (ws' := (wM cs a r26.2)) [0, 1, 2, 3, 4, 5, 6, 7, 8, 9, 10, 11] rfl
      have hD := hD.sub (ws' := (wM cs a r26.2)) [0, 1, 2, 3, 4, 5, 6, 7, 8, 9, 10, 11] (by decide) rfl
      exact hR _ _ _ _ _ _ dX8_type_29 hf hP hD hS
  · replace hf := it_t c1 hf
    refine lv_aload_n hx hb dX8_type_10 rfl (lv_at hl 0 rfl) ?_
    obtain ⟨r11, hr11, hf⟩ := bn_e hf
    have hPc := hP.sub (ws' := (wM cs a M)) [0, 1, 2, 3, 4, 5, 6, 7, 8, 9, 10, 11] rfl
    have hDc := hD.sub (ws' := (wM cs a M)) [0, 1, 2, 3, 4, 5, 6, 7, 8, 9, 10, 11] (by decide) rfl
    have hFc := va_free (wc := (wM cs a M)) hD hS hA [0, 1, 2, 3, 4, 5, 6, 7, 8, 9, 10, 11] rfl
    refine va_calli (va_runV (As := []) (rest := []) C (c_X8_bad l dC dI cs a s.heap.size M r11 hr11) (cwV 0 hts gX8_type_X8_bad rfl rfl rfl (by decide +kernel) ⟨Nat.le_of_ble_eq_true rfl, Nat.le_of_ble_eq_true rfl⟩) ⟨(fun a U g mk q => ⟨q.1, q.2.1, q.2.2.1, GE.calling q.2.2.2.1, q.2.2.2.2⟩), va_recv hK hPc (ci := 8) (q0 := 0) rfl rfl, (fun U hU hW => ⟨rfl, by rw [hU], by rw [hU]; exact hPc, GE.warm hW G, hDc.weaken (fun _ _ _ _ => trivial)⟩)⟩ rfl rfl hl.1 rfl (lv_room (Nat.le_of_ble_eq_true rfl)) dX8_type_11 ⟨Nat.le_of_ble_eq_true rfl, Nat.le_of_ble_eq_true rfl⟩) hS (fun q _ h => hFc q h) hFc (fun q u t H1 locs ht hvm hw hB hz1 hk1 hS => ?_)
    obtain ⟨rfl, rfl⟩ := hw
    obtain ⟨hP1, hD1⟩ := hB
    rw [ht] at hP1
    obtain ⟨hP, hD⟩ := va_join (wr := []) (w1 := (wM cs a r11.2)) hP hD [0, 1, 2, 3, 4, 5, 6, 7, 8, 9, 10, 11] [] rfl rfl (by decide) (by decide) hk1 hFc hP1 hD1
    generalize H1 = H at hP hS ⊢
    have hP := hP.sub (ws' := (wM cs a r11.2)) [0, 1, 2, 3, 4, 5, 6, 7, 8, 9, 10, 11] rfl
    have hD := hD.sub (ws' := (wM cs a r11.2)) [0, 1, 2, 3, 4, 5, 6, 7, 8, 9, 10, 11] (by decide) rfl
    exact hR _ _ _ _ _ _ dX8_type_14 hf hP hD hS

theorem in_X8_clear_X8 : ∀ w ∈ wsX80, w ∈ wsX8_clear := by decide +kernel
def f_X8_clear  (M : Ms) : Option (Int32 × Ms) :=
  lett ((upd M.1 0 ((0 : Int32)), M.2)) fun M_7 =>
  some ((M.1 0), M_7)
set_option maxHeartbeats 4000000 in
set_option maxRecDepth 100000 in
theorem c_X8_clear (l : Launch) (dC : Nat → ClassId) (dI : Nat → Nat → Nat) (cs : Nat → ClassId) (a : Nat → Nat) (sz : Nat) (M : Ms)  (res : Int32 × Ms) (hf : f_X8_clear M = some res) : Met l yX8_clear wsX8_clear ({ frames := 0, cells := 0, slots := 0, locals := 0 }) (va_Pc [.ref (a 0)] (fun U => U.heap.size = sz ∧ va_P (dC, dI) vwCl (wM cs a M) U.heap ∧ GE dC dI cs U ∧ va_D (fun _ => True) (wM cs a M))) (va_Qi (fun r (u : Ms) => r = res.1 ∧ u = res.2) (fun u t => va_P (dC, dI) vwCl ((fun u : Ms => (wM cs a u)) u) t.heap ∧ va_D (va_A (wM cs a M) sz) ((fun u : Ms => (wM cs a u)) u)) (va_A (wM cs a M) sz)) 0 0 (va_A (wM cs a M) sz) := by
  refine Met.ofW (cc := cX8_clear) (maxL := 2) (ret := (some .int)) (by decide) rfl ?_
  intro p e s m args below meth c s₁ Bd hml hv
  obtain ⟨rfl, hsz, hP, G, hD0⟩ := hv
  have hts := atoms_spec (ws := wsX8_clear) Bd.pre
  have hown : s.vm.findClass RX8 = some m.cls := findClass_of_methodNamed Bd.named
  have hlocks := Bd.notSynchronized
  have hx := Bd.exec
  have hb := Bd.bytes
  have hr := Bd.returns
  have C : CallFix p m c cX8_clear 2 s _ wsX8_clear RX8 := ⟨hx, hb, hml, hown, hts⟩
  obtain ⟨hK, hN⟩ := id G
  subst hsz
  have hD := hD0.self (sz := s.heap.size)
  generalize hAe : va_A (wM cs a M) s.heap.size = A at hD ⊢
  have hA : ∀ q : Nat, s.heap.size ≤ q → A q := fun q h => by rw [← hAe]; exact Or.inr h
  have hS : va_S A s.heap s.heap [] := va_S.rf
  have hR : RTi p l e ({ frames := 0, cells := 0, slots := 0, locals := 0 }) s m ([.ref (a 0)] : List Value).toArray below meth c cX8_clear (MQ below (va_Qi (fun r (u : Ms) => r = res.1 ∧ u = res.2) (fun u t => va_P (dC, dI) vwCl ((fun u : Ms => (wM cs a u)) u) t.heap ∧ va_D A ((fun u : Ms => (wM cs a u)) u)) A) ([.ref (a 0)] : List Value).toArray s 0 0 A) (dC, dI) A (fun u : Ms => (wM cs a u)) res := fun H locs pc ls r u dd h hP hD hS => W.iret hx hb hr (fun t ht hW => ⟨⟨r, u, rfl, by cases h; exact ⟨rfl, rfl⟩, by rw [ht]; exact hP, hD⟩, hS.F ht⟩) hS.2.2 dd
  have hl := lv_entry ([.ref (a 0)]) (n := 2) (Nat.le_of_ble_eq_true rfl)
  rw [lg_entry_eq]
  generalize (lg_sl ([.ref (a 0)]) ++ List.replicate (2 - (lg_sl ([.ref (a 0)])).length) Slot.unset).toArray = ls at hl ⊢
  have hl : lv_has ls 2 [(0, .ref (a 0))] := hl
  unfold f_X8_clear at hf
  refine lv_aload_n hx hb dX8_clear_0 rfl (lv_at hl 0 rfl) ?_
  refine va_get (D := (dC, dI)) (ci := 8) (v := .int ((M.1 0))) (C := RX8) (T := TX8) (N := 20) hx hb hts in_X8_clear_X8 hown hK hP 0 rfl rfl 7 (by decide) (hts (.fieldLink RX8 79 "BackLoansModel" "typed" "I") (by decide +kernel)) (fun _ h9 => h9) rfl dX8_clear_1 ?_
  refine lv_istore_n (lv' := [(1, .int ((M.1 0))), (0, .ref (a 0))]) hx hb dX8_clear_4 rfl hl (by decide) rfl (fun ls hl => ?_)
  refine lv_aload_n hx hb dX8_clear_5 rfl (lv_at hl 1 rfl) ?_
  refine lv_iconst (v := 0) hx hb dX8_clear_6 (by decide) ?_
  refine va_put (D := (dC, dI)) (ci := 8) (v := .int ((0 : Int32))) (ty := .int) (C := RX8) (T := TX8) (N := 20) hx hb hts in_X8_clear_X8 tyX8 tyX8_ok nmX8 hown hK hP hD hS 0 rfl rfl 7 (by decide) (hts (.fieldLink RX8 79 "BackLoansModel" "typed" "I") (by decide +kernel)) (fun _ h9 => h9) rfl (by decide +kernel) rfl rfl (Nat.le_of_ble_eq_true rfl) dX8_clear_7 (fun H locs hP hD hS => ?_)
  obtain ⟨M_7, hP, hD, hf⟩ := st_nm (ws := fun M_7 : Ms => (wM cs a M_7)) ((upd M.1 0 ((0 : Int32)), M.2)) hP hD hf
  refine lv_iload_n hx hb dX8_clear_10 rfl (lv_at hl 0 rfl) ?_
  exact hR _ _ _ _ _ _ dX8_clear_11 hf hP hD hS

def f_X8_copy_3 (na : Nat) (nb : Nat) (x1 : Int32) (x3 : Int32) (x4 : Int32) (ta : Nat → Int32) (tb : Nat → Int32) (K3 : Int32 → (Nat → Int32) → Option ((Nat → Int32))) : Option ((Nat → Int32)) :=
  if (362 : Int32) ≤ x4 then (
    some tb
  ) else (
    gi ((x1 + x4)) na <|
    gi ((x3 + x4)) nb <|
    lett (upd tb ((x3 + x4)).toNatClampNeg ((ta ((x1 + x4)).toNatClampNeg))) fun tb_22 =>
    lett (x4 + 1) fun x4_23 =>
    K3 x4_23 tb_22
  )
set_option maxHeartbeats 4000000 in
set_option maxRecDepth 100000 in
theorem b_X8_copy_3 {p : Program} {l : Launch} {e : Env} {s : State} {m : MethodId} {args : Array Value} {below : List Frame} {meth : Method} {c : Code} {Q : State → Prop} {dC : Nat → ClassId} {dI : Nat → Nat → Nat} {cs : Nat → ClassId} {A : Nat → Prop} {a : Nat} {b : Nat} {na : Nat} {nb : Nat} {res : (Nat → Int32)} (C : CallFix p m c cX8_copy 5 s args wsX8_copy RX8) (G : GE dC dI cs s) (hA : ∀ q : Nat, s.heap.size ≤ q → A q) {ta : Nat → Int32} (hR : RTv p l e ({ frames := 0, cells := 0, slots := 0, locals := 0 }) s m args below meth c cX8_copy Q (dC, dI) A (fun u : (Nat → Int32) => (wA cs a na ta ++ wA cs b nb u)) res) (x1 : Int32) (x3 : Int32) (x4 : Int32) (_ : Nat → Int32) (tb : Nat → Int32) {K3 : Int32 → (Nat → Int32) → Option ((Nat → Int32))} (hK3 : ∀ (x4 : Int32) (tb : Nat → Int32) (H : Heap) (locs : List Loc) (ls : Array Slot), lv_has ls 5 [(0, .ref a), (1, .int (x1)), (2, .ref b), (3, .int (x3)), (4, .int (x4))] → va_P (dC, dI) vwCl (wA cs a na ta ++ wA cs b nb tb) H → va_D A (wA cs a na ta ++ wA cs b nb tb) → va_S A s.heap H locs → K3 x4 tb = some res → W p l e ({ frames := 0, cells := 0, slots := 0, locals := 0 }) s m args below meth c H locs 0 0 Q (F0 m 3 ls [])) (H : Heap) (locs : List Loc) (ls : Array Slot) (hl : lv_has ls 5 [(0, .ref a), (1, .int (x1)), (2, .ref b), (3, .int (x3)), (4, .int (x4))]) (hP : va_P (dC, dI) vwCl (wA cs a na ta ++ wA cs b nb tb) H) (hD : va_D A (wA cs a na ta ++ wA cs b nb tb)) (hS : va_S A s.heap H locs) (hf : f_X8_copy_3 na nb x1 x3 x4 ta tb K3 = some res) : W p l e ({ frames := 0, cells := 0, slots := 0, locals := 0 }) s m args below meth c H locs 0 0 Q (F0 m 3 ls []) := by
  obtain ⟨hx, hb, hml, hown, hts⟩ := id C
  obtain ⟨hK, hN⟩ := id G
  unfold f_X8_copy_3 at hf
  refine lv_iload hx hb dX8_copy_3 (lv_at hl 4 rfl) ?_
  refine lv_sipush (v := 362) hx hb dX8_copy_5 (by decide) ?_
  refine lv_icmp_ge (tgt := 29) hx hb dX8_copy_8 (by decide) (fun c1 => ?_) (fun c1 => ?_)
  · replace hf := it_t c1 hf
    exact hR _ _ _ _ _ dX8_copy_29 hf hP hD hS
  · replace hf := it_f c1 hf
    refine lv_aload_n hx hb dX8_copy_11 rfl (lv_at hl 2 rfl) ?_
    refine lv_iload_n hx hb dX8_copy_12 rfl (lv_at hl 3 rfl) ?_
    refine lv_iload hx hb dX8_copy_13 (lv_at hl 4 rfl) ?_
    refine lv_iadd hx hb dX8_copy_15 ?_
    refine lv_aload_n hx hb dX8_copy_16 rfl (lv_at hl 0 rfl) ?_
    refine lv_iload_n hx hb dX8_copy_17 rfl (lv_at hl 1 rfl) ?_
    refine lv_iload hx hb dX8_copy_18 (lv_at hl 4 rfl) ?_
    refine lv_iadd hx hb dX8_copy_20 ?_
    obtain ⟨hi2, hf⟩ := gi_e hf
    refine va_iald hx hb hK hP 0 0 rfl rfl hi2 dX8_copy_21 ?_
    obtain ⟨hi3, hf⟩ := gi_e hf
    refine va_iast hx hb hK hP hD hS 1 0 rfl rfl hi3 dX8_copy_22 (fun H locs hP hD hS => ?_)
    obtain ⟨tb_22, hP, hD, hf⟩ := st_nm (ws := fun tb_22 : Nat → Int32 => (wA cs a na ta ++ wA cs b nb tb_22)) (upd tb ((x3 + x4)).toNatClampNeg ((ta ((x1 + x4)).toNatClampNeg))) hP hD hf
    obtain ⟨x4_23, ex4_23⟩ : ∃ y : Int32, y = (x4 + 1) := ⟨_, rfl⟩
    replace hf := lett_s ex4_23 hf
    refine lv_iinc (v := x4_23) (lv' := [(4, .int (x4_23)), (0, .ref a), (1, .int (x1)), (2, .ref b), (3, .int (x3))]) hx hb dX8_copy_23 hl (k := 4) rfl (by rw [ex4_23]; rfl) (by decide) rfl (fun ls hl => ?_)
    refine lv_goto (tgt := 3) hx hb dX8_copy_26 (by decide) ?_
    exact hK3 x4_23 tb_22 _ _ _ (lv_sub hl [1, 2, 3, 4, 0] rfl) hP hD hS hf
def l_X8_copy_3 (na : Nat) (nb : Nat) (x1 : Int32) (x3 : Int32) (ta : Nat → Int32)  (n : Nat) (x4 : Int32) (tb : Nat → Int32) : Option ((Nat → Int32)) := itr (fun (k : Int32 × (Nat → Int32) → Option ((Nat → Int32))) (z : Int32 × (Nat → Int32)) => f_X8_copy_3 na nb x1 x3 z.1 ta z.2 (fun x4 tb => k (x4, tb))) n (x4, tb)
set_option maxHeartbeats 4000000 in
set_option maxRecDepth 100000 in
theorem w_X8_copy_3 {p : Program} {l : Launch} {e : Env} {s : State} {m : MethodId} {args : Array Value} {below : List Frame} {meth : Method} {c : Code} {Q : State → Prop} {dC : Nat → ClassId} {dI : Nat → Nat → Nat} {cs : Nat → ClassId} {A : Nat → Prop} {a : Nat} {b : Nat} {na : Nat} {nb : Nat} {res : (Nat → Int32)} (C : CallFix p m c cX8_copy 5 s args wsX8_copy RX8) (G : GE dC dI cs s) (hA : ∀ q : Nat, s.heap.size ≤ q → A q) {ta : Nat → Int32} (hR : RTv p l e ({ frames := 0, cells := 0, slots := 0, locals := 0 }) s m args below meth c cX8_copy Q (dC, dI) A (fun u : (Nat → Int32) => (wA cs a na ta ++ wA cs b nb u)) res) (x1 : Int32) (x3 : Int32) (_ : Nat → Int32)   : ∀ (n : Nat) (x4 : Int32) (tb : Nat → Int32) (H : Heap) (locs : List Loc) (ls : Array Slot), lv_has ls 5 [(0, .ref a), (1, .int (x1)), (2, .ref b), (3, .int (x3)), (4, .int (x4))] → va_P (dC, dI) vwCl (wA cs a na ta ++ wA cs b nb tb) H → va_D A (wA cs a na ta ++ wA cs b nb tb) → va_S A s.heap H locs → l_X8_copy_3 na nb x1 x3 ta n x4 tb = some res → W p l e ({ frames := 0, cells := 0, slots := 0, locals := 0 }) s m args below meth c H locs 0 0 Q (F0 m 3 ls []) := by
  intro n
  induction n with
  | zero => intro x4 tb H locs ls hl hP hD hS hf; exact absurd hf (by simp [l_X8_copy_3, itr])
  | succ n ih => intro x4 tb H locs ls hl hP hD hS hf; exact b_X8_copy_3 C G hA hR x1 x3 x4 ta tb (K3 := fun x4 tb => l_X8_copy_3 na nb x1 x3 ta n x4 tb) (fun x4 tb H locs ls hl hP hD hS hf => ih x4 tb H locs ls hl hP hD hS hf) H locs ls hl hP hD hS hf
def f_X8_copy (na : Nat) (nb : Nat) (x1 : Int32) (x3 : Int32) (ta : Nat → Int32) (tb : Nat → Int32) : Option ((Nat → Int32)) :=
  lett (0 : Int32) fun x4_1 =>
  l_X8_copy_3 na nb x1 x3 ta FU x4_1 tb
set_option maxHeartbeats 4000000 in
set_option maxRecDepth 100000 in
theorem c_X8_copy (l : Launch) (dC : Nat → ClassId) (dI : Nat → Nat → Nat) (cs : Nat → ClassId) (a : Nat) (b : Nat) (na : Nat) (nb : Nat) (sz : Nat) (ta : Nat → Int32) (tb : Nat → Int32) (x1 : Int32) (x3 : Int32) (res : (Nat → Int32)) (hf : f_X8_copy na nb x1 x3 ta tb = some res) : Met l yX8_copy wsX8_copy ({ frames := 0, cells := 0, slots := 0, locals := 0 }) (va_Pc [.ref a, .int (x1), .ref b, .int (x3)] (fun U => U.heap.size = sz ∧ va_P (dC, dI) vwCl (wA cs a na ta ++ wA cs b nb tb) U.heap ∧ GE dC dI cs U ∧ va_D (fun _ => True) (wA cs a na ta ++ wA cs b nb tb))) (va_Qv (fun u : (Nat → Int32) => u = res) (fun u t => va_P (dC, dI) vwCl ((fun u : (Nat → Int32) => (wA cs a na ta ++ wA cs b nb u)) u) t.heap ∧ va_D (va_A (wA cs a na ta ++ wA cs b nb tb) sz) ((fun u : (Nat → Int32) => (wA cs a na ta ++ wA cs b nb u)) u)) (va_A (wA cs a na ta ++ wA cs b nb tb) sz)) 0 0 (va_A (wA cs a na ta ++ wA cs b nb tb) sz) := by
  refine Met.ofW (cc := cX8_copy) (maxL := 5) (ret := none) (by decide) rfl ?_
  intro p e s m args below meth c s₁ Bd hml hv
  obtain ⟨rfl, hsz, hP, G, hD0⟩ := hv
  have hts := atoms_spec (ws := wsX8_copy) Bd.pre
  have hown : s.vm.findClass RX8 = some m.cls := findClass_of_methodNamed Bd.named
  have hlocks := Bd.notSynchronized
  have hx := Bd.exec
  have hb := Bd.bytes
  have hr := Bd.returns
  have C : CallFix p m c cX8_copy 5 s _ wsX8_copy RX8 := ⟨hx, hb, hml, hown, hts⟩
  obtain ⟨hK, hN⟩ := id G
  subst hsz
  have hD := hD0.self (sz := s.heap.size)
  generalize hAe : va_A (wA cs a na ta ++ wA cs b nb tb) s.heap.size = A at hD ⊢
  have hA : ∀ q : Nat, s.heap.size ≤ q → A q := fun q h => by rw [← hAe]; exact Or.inr h
  have hS : va_S A s.heap s.heap [] := va_S.rf
  have hR : RTv p l e ({ frames := 0, cells := 0, slots := 0, locals := 0 }) s m ([.ref a, .int (x1), .ref b, .int (x3)] : List Value).toArray below meth c cX8_copy (MQ below (va_Qv (fun u : (Nat → Int32) => u = res) (fun u t => va_P (dC, dI) vwCl ((fun u : (Nat → Int32) => (wA cs a na ta ++ wA cs b nb u)) u) t.heap ∧ va_D A ((fun u : (Nat → Int32) => (wA cs a na ta ++ wA cs b nb u)) u)) A) ([.ref a, .int (x1), .ref b, .int (x3)] : List Value).toArray s 0 0 A) (dC, dI) A (fun u : (Nat → Int32) => (wA cs a na ta ++ wA cs b nb u)) res := fun H locs pc ls u dd h hP hD hS => W.vret hx hb hr (fun t ht hW => ⟨⟨u, rfl, by cases h; rfl, by rw [ht]; exact hP, hD⟩, hS.F ht⟩) hS.2.2 dd
  have hl := lv_entry ([.ref a, .int (x1), .ref b, .int (x3)]) (n := 5) (Nat.le_of_ble_eq_true rfl)
  rw [lg_entry_eq]
  generalize (lg_sl ([.ref a, .int (x1), .ref b, .int (x3)]) ++ List.replicate (5 - (lg_sl ([.ref a, .int (x1), .ref b, .int (x3)])).length) Slot.unset).toArray = ls at hl ⊢
  have hl : lv_has ls 5 [(0, .ref a), (1, .int (x1)), (2, .ref b), (3, .int (x3))] := hl
  unfold f_X8_copy at hf
  refine lv_iconst (v := 0) hx hb dX8_copy_0 (by decide) ?_
  refine lv_topi (fun x4_1 ex4_1 => ?_)
  replace hf := lett_s ex4_1 hf
  refine lv_istore (lv' := [(4, .int (x4_1)), (0, .ref a), (1, .int (x1)), (2, .ref b), (3, .int (x3))]) hx hb dX8_copy_1 hl (by decide) rfl (fun ls hl => ?_)
  exact w_X8_copy_3 C G hA hR x1 x3 ta FU x4_1 tb _ _ _ (lv_sub hl [1, 2, 3, 4, 0] rfl) hP hD hS hf

def f_X8_name_45 (x5 : Int32) (s0 : Int64)  : Option Int64 :=
  if x5 = 0 then (
    some s0
  ) else (
    some (((27 : Int64) * s0) + (x5).toInt64)
  )
set_option maxHeartbeats 4000000 in
set_option maxRecDepth 100000 in
theorem b_X8_name_45 {p : Program} {l : Launch} {e : Env} {s : State} {m : MethodId} {args : Array Value} {below : List Frame} {meth : Method} {c : Code} {Q : State → Prop} {dC : Nat → ClassId} {dI : Nat → Nat → Nat} {cs : Nat → ClassId} {res : Int64} (C : CallFix p m c cX8_name 8 s args wsX8_name RX8) (G : GE dC dI cs s) (hR : RPl p l e ({ frames := 0, cells := 0, slots := 0, locals := 0 }) s m args below meth c cX8_name Q res) (hP : va_P (dC, dI) vwCl ([] : va_W) s.heap) (x5 : Int32) (s0 : Int64)    (ls : Array Slot) (hl : lv_has ls 8 [(5, .int (x5))]) (hf : f_X8_name_45 x5 s0 = some res) : W p l e ({ frames := 0, cells := 0, slots := 0, locals := 0 }) s m args below meth c s.heap [] 0 0 Q (F0 m 45 ls [.long (s0)]) := by
  obtain ⟨hx, hb, hml, hown, hts⟩ := id C
  obtain ⟨hK, hN⟩ := id G
  unfold f_X8_name_45 at hf
  refine lv_lstore (lv' := [(6, .long (s0)), (5, .int (x5))]) hx hb dX8_name_45 hl (by decide) rfl (fun ls hl => ?_)
  refine lv_iload hx hb dX8_name_47 (lv_at hl 1 rfl) ?_
  refine lv_if_ne (tgt := 57) hx hb dX8_name_49 (by decide) (fun c1 => ?_) (fun c1 => ?_)
  · replace hf := it_f c1 hf
    refine lv_ldc2 (v := 27) hx hb hown (hts (.constantLong RX8 102 (27)) (by decide +kernel)) dX8_name_57 ?_
    refine lv_lload hx hb dX8_name_60 (lv_at hl 0 rfl) ?_
    refine lv_lmul hx hb dX8_name_62 ?_
    refine lv_iload hx hb dX8_name_63 (lv_at hl 1 rfl) ?_
    refine lv_i2l hx hb dX8_name_65 rfl ?_
    refine lv_ladd hx hb dX8_name_66 ?_
    exact hR _ _ _ dX8_name_67 hf
  · replace hf := it_t c1 hf
    refine lv_lload hx hb dX8_name_52 (lv_at hl 0 rfl) ?_
    refine lv_goto (tgt := 67) hx hb dX8_name_54 (by decide) ?_
    exact hR _ _ _ dX8_name_67 hf
def f_X8_name (x0 : Int32) (x1 : Int32) (x2 : Int32) (x3 : Int32) (x4 : Int32) (x5 : Int32)  : Option Int64 :=
  lett (((27 : Int64) * (((27 : Int64) * (((27 : Int64) * (x0).toInt64) + (x1).toInt64)) + (x2).toInt64)) + (x3).toInt64) fun x6_23 =>
  if x4 = 0 then (
    f_X8_name_45 x5 x6_23
  ) else (
    f_X8_name_45 x5 (((27 : Int64) * x6_23) + (x4).toInt64)
  )
set_option maxHeartbeats 4000000 in
set_option maxRecDepth 100000 in
theorem c_X8_name (l : Launch) (dC : Nat → ClassId) (dI : Nat → Nat → Nat) (cs : Nat → ClassId)  (x0 : Int32) (x1 : Int32) (x2 : Int32) (x3 : Int32) (x4 : Int32) (x5 : Int32) (res : Int64) (hf : f_X8_name x0 x1 x2 x3 x4 x5 = some res) : Met l yX8_name wsX8_name ({ frames := 0, cells := 0, slots := 0, locals := 0 }) (va_Pc [.int (x0), .int (x1), .int (x2), .int (x3), .int (x4), .int (x5)] (fun U => va_P (dC, dI) vwCl ([] : va_W) U.heap ∧ GE dC dI cs U)) (vp_Sl (fun r => r = res)) 0 0 (fun _ => False) := by
  refine Met.ofW (cc := cX8_name) (maxL := 8) (ret := (some .long)) (by decide) rfl ?_
  intro p e s m args below meth c s₁ Bd hml hv
  obtain ⟨rfl, hP, G⟩ := hv
  have hts := atoms_spec (ws := wsX8_name) Bd.pre
  have hown : s.vm.findClass RX8 = some m.cls := findClass_of_methodNamed Bd.named
  have hlocks := Bd.notSynchronized
  have hx := Bd.exec
  have hb := Bd.bytes
  have hr := Bd.returns
  have C : CallFix p m c cX8_name 8 s _ wsX8_name RX8 := ⟨hx, hb, hml, hown, hts⟩
  obtain ⟨hK, hN⟩ := id G
  have hR : RPl p l e ({ frames := 0, cells := 0, slots := 0, locals := 0 }) s m ([.int (x0), .int (x1), .int (x2), .int (x3), .int (x4), .int (x5)] : List Value).toArray below meth c cX8_name (MQ below (vp_Sl (fun r => r = res)) ([.int (x0), .int (x1), .int (x2), .int (x3), .int (x4), .int (x5)] : List Value).toArray s 0 0 (fun _ => False)) res := fun pc ls r dd h => W.lret hx hb hr (fun t ht hW => ⟨r, rfl, Option.some.inj h, ht⟩) (fun q hq => by cases hq) dd
  have hl := lv_entry ([.int (x0), .int (x1), .int (x2), .int (x3), .int (x4), .int (x5)]) (n := 8) (Nat.le_of_ble_eq_true rfl)
  rw [lg_entry_eq]
  generalize (lg_sl ([.int (x0), .int (x1), .int (x2), .int (x3), .int (x4), .int (x5)]) ++ List.replicate (8 - (lg_sl ([.int (x0), .int (x1), .int (x2), .int (x3), .int (x4), .int (x5)])).length) Slot.unset).toArray = ls at hl ⊢
  have hl : lv_has ls 8 [(0, .int (x0)), (1, .int (x1)), (2, .int (x2)), (3, .int (x3)), (4, .int (x4)), (5, .int (x5))] := hl
  unfold f_X8_name at hf
  refine lv_ldc2 (v := 27) hx hb hown (hts (.constantLong RX8 102 (27)) (by decide +kernel)) dX8_name_0 ?_
  refine lv_ldc2 (v := 27) hx hb hown (hts (.constantLong RX8 102 (27)) (by decide +kernel)) dX8_name_3 ?_
  refine lv_ldc2 (v := 27) hx hb hown (hts (.constantLong RX8 102 (27)) (by decide +kernel)) dX8_name_6 ?_
  refine lv_iload_n hx hb dX8_name_9 rfl (lv_at hl 0 rfl) ?_
  refine lv_i2l hx hb dX8_name_10 rfl ?_
  refine lv_lmul hx hb dX8_name_11 ?_
  refine lv_iload_n hx hb dX8_name_12 rfl (lv_at hl 1 rfl) ?_
  refine lv_i2l hx hb dX8_name_13 rfl ?_
  refine lv_ladd hx hb dX8_name_14 ?_
  refine lv_lmul hx hb dX8_name_15 ?_
  refine lv_iload_n hx hb dX8_name_16 rfl (lv_at hl 2 rfl) ?_
  refine lv_i2l hx hb dX8_name_17 rfl ?_
  refine lv_ladd hx hb dX8_name_18 ?_
  refine lv_lmul hx hb dX8_name_19 ?_
  refine lv_iload_n hx hb dX8_name_20 rfl (lv_at hl 3 rfl) ?_
  refine lv_i2l hx hb dX8_name_21 rfl ?_
  refine lv_ladd hx hb dX8_name_22 ?_
  refine lv_topl (fun x6_23 ex6_23 => ?_)
  replace hf := lett_s ex6_23 hf
  refine lv_lstore (lv' := [(6, .long (x6_23)), (0, .int (x0)), (1, .int (x1)), (2, .int (x2)), (3, .int (x3)), (4, .int (x4)), (5, .int (x5))]) hx hb dX8_name_23 hl (by decide) rfl (fun ls hl => ?_)
  refine lv_iload hx hb dX8_name_25 (lv_at hl 5 rfl) ?_
  refine lv_if_ne (tgt := 35) hx hb dX8_name_27 (by decide) (fun c1 => ?_) (fun c1 => ?_)
  · replace hf := it_f c1 hf
    refine lv_ldc2 (v := 27) hx hb hown (hts (.constantLong RX8 102 (27)) (by decide +kernel)) dX8_name_35 ?_
    refine lv_lload hx hb dX8_name_38 (lv_at hl 0 rfl) ?_
    refine lv_lmul hx hb dX8_name_40 ?_
    refine lv_iload hx hb dX8_name_41 (lv_at hl 5 rfl) ?_
    refine lv_i2l hx hb dX8_name_43 rfl ?_
    refine lv_ladd hx hb dX8_name_44 ?_
    exact b_X8_name_45 C G hR hP x5 (((27 : Int64) * x6_23) + (x4).toInt64) _ (lv_sub hl [6] rfl) hf
  · replace hf := it_t c1 hf
    refine lv_lload hx hb dX8_name_30 (lv_at hl 0 rfl) ?_
    refine lv_goto (tgt := 45) hx hb dX8_name_32 (by decide) ?_
    exact b_X8_name_45 C G hR hP x5 x6_23 _ (lv_sub hl [6] rfl) hf

theorem in_X8_byteAt_X8 : ∀ w ∈ wsX80, w ∈ wsX8_byteAt := by decide +kernel
def f_X8_byteAt (x1 : Int32) (M : Ms) : Option Int32 :=
  if (M.1 0) ≤ x1 then (
    some (-1 : Int32)
  ) else (
    gi (x1) 150 <|
    some ((M.2.2 6) (x1).toNatClampNeg)
  )
set_option maxHeartbeats 4000000 in
set_option maxRecDepth 100000 in
theorem c_X8_byteAt (l : Launch) (dC : Nat → ClassId) (dI : Nat → Nat → Nat) (cs : Nat → ClassId) (a : Nat → Nat) (M : Ms) (x1 : Int32) (res : Int32) (hf : f_X8_byteAt x1 M = some res) : Met l yX8_byteAt wsX8_byteAt ({ frames := 0, cells := 0, slots := 0, locals := 0 }) (va_Pc [.ref (a 0), .int (x1)] (fun U => va_P (dC, dI) vwCl (wM cs a M) U.heap ∧ GE dC dI cs U)) (vp_Si (fun r => r = res)) 0 0 (fun _ => False) := by
  refine Met.ofW (cc := cX8_byteAt) (maxL := 2) (ret := (some .int)) (by decide) rfl ?_
  intro p e s m args below meth c s₁ Bd hml hv
  obtain ⟨rfl, hP, G⟩ := hv
  have hts := atoms_spec (ws := wsX8_byteAt) Bd.pre
  have hown : s.vm.findClass RX8 = some m.cls := findClass_of_methodNamed Bd.named
  have hlocks := Bd.notSynchronized
  have hx := Bd.exec
  have hb := Bd.bytes
  have hr := Bd.returns
  have C : CallFix p m c cX8_byteAt 2 s _ wsX8_byteAt RX8 := ⟨hx, hb, hml, hown, hts⟩
  obtain ⟨hK, hN⟩ := id G
  have hR : RPi p l e ({ frames := 0, cells := 0, slots := 0, locals := 0 }) s m ([.ref (a 0), .int (x1)] : List Value).toArray below meth c cX8_byteAt (MQ below (vp_Si (fun r => r = res)) ([.ref (a 0), .int (x1)] : List Value).toArray s 0 0 (fun _ => False)) res := fun pc ls r dd h => W.iret hx hb hr (fun t ht hW => ⟨r, rfl, Option.some.inj h, ht⟩) (fun q hq => by cases hq) dd
  have hl := lv_entry ([.ref (a 0), .int (x1)]) (n := 2) (Nat.le_of_ble_eq_true rfl)
  rw [lg_entry_eq]
  generalize (lg_sl ([.ref (a 0), .int (x1)]) ++ List.replicate (2 - (lg_sl ([.ref (a 0), .int (x1)])).length) Slot.unset).toArray = ls at hl ⊢
  have hl : lv_has ls 2 [(0, .ref (a 0)), (1, .int (x1))] := hl
  unfold f_X8_byteAt at hf
  refine lv_iload_n hx hb dX8_byteAt_0 rfl (lv_at hl 1 rfl) ?_
  refine lv_aload_n hx hb dX8_byteAt_1 rfl (lv_at hl 0 rfl) ?_
  refine va_get (D := (dC, dI)) (ci := 8) (v := .int ((M.1 0))) (C := RX8) (T := TX8) (N := 20) hx hb hts in_X8_byteAt_X8 hown hK hP 0 rfl rfl 7 (by decide) (hts (.fieldLink RX8 79 "BackLoansModel" "typed" "I") (by decide +kernel)) (fun _ h9 => h9) rfl dX8_byteAt_2 ?_
  refine lv_icmp_ge (tgt := 17) hx hb dX8_byteAt_5 (by decide) (fun c1 => ?_) (fun c1 => ?_)
  · replace hf := it_t c1 hf
    refine lv_iconst (v := -1) hx hb dX8_byteAt_17 (by decide) ?_
    exact hR _ _ _ dX8_byteAt_18 hf
  · replace hf := it_f c1 hf
    refine lv_aload_n hx hb dX8_byteAt_8 rfl (lv_at hl 0 rfl) ?_
    refine va_get (D := (dC, dI)) (ci := 8) (v := .ref (a 7)) (C := RX8) (T := TX8) (N := 20) hx hb hts in_X8_byteAt_X8 hown hK hP 0 rfl rfl 6 (by decide) (hts (.fieldLink RX8 29 "BackLoansModel" "text" "[I") (by decide +kernel)) (fun _ h9 => h9) rfl dX8_byteAt_9 ?_
    refine lv_iload_n hx hb dX8_byteAt_12 rfl (lv_at hl 1 rfl) ?_
    obtain ⟨hi2, hf⟩ := gi_e hf
    refine va_iald hx hb hK hP 7 0 rfl rfl hi2 dX8_byteAt_13 ?_
    refine lv_goto (tgt := 18) hx hb dX8_byteAt_14 (by decide) ?_
    exact hR _ _ _ dX8_byteAt_18 hf

theorem in_X8_word_X8 : ∀ w ∈ wsX80, w ∈ wsX8_word := by decide +kernel
def f_X8_word_4 (x1 : Int64) (x3 : Int32) (M : Ms) (K4 : Int64 → Int32 → Option Int64) : Option Int64 :=
  if (M.1 3) ≤ x3 then (
    some x1
  ) else (
    if (7 : Int32) ≤ (M.1 3) then (
      some x1
    ) else (
      if (M.1 4) = (1 : Int32) then (
        bn (f_X8_byteAt ((M.1 2) + x3) M) fun r41 =>
        lett ((((27 : Int64) * x1) + (r41).toInt64) - (96 : Int64)) fun x1_50 =>
        lett (x3 + 1) fun x3_51 =>
        K4 x1_50 x3_51
      ) else (
        some x1
      )
    )
  )
set_option maxHeartbeats 4000000 in
set_option maxRecDepth 100000 in
theorem b_X8_word_4 {p : Program} {l : Launch} {e : Env} {s : State} {m : MethodId} {args : Array Value} {below : List Frame} {meth : Method} {c : Code} {Q : State → Prop} {dC : Nat → ClassId} {dI : Nat → Nat → Nat} {cs : Nat → ClassId} {a : Nat → Nat} {res : Int64} (C : CallFix p m c cX8_word 4 s args wsX8_word RX8) (G : GE dC dI cs s) (hR : RPl p l e ({ frames := 1, cells := 0, slots := 0, locals := 21 }) s m args below meth c cX8_word Q res) {M : Ms} (hP : va_P (dC, dI) vwCl (wM cs a M) s.heap) (x1 : Int64) (x3 : Int32) (_ : Ms) {K4 : Int64 → Int32 → Option Int64} (hK4 : ∀ (x1 : Int64) (x3 : Int32) (ls : Array Slot), lv_has ls 4 [(0, .ref (a 0)), (1, .long (x1)), (3, .int (x3))] → K4 x1 x3 = some res → W p l e ({ frames := 1, cells := 0, slots := 0, locals := 21 }) s m args below meth c s.heap [] 0 0 Q (F0 m 4 ls [])) (ls : Array Slot) (hl : lv_has ls 4 [(0, .ref (a 0)), (1, .long (x1)), (3, .int (x3))]) (hf : f_X8_word_4 x1 x3 M K4 = some res) : W p l e ({ frames := 1, cells := 0, slots := 0, locals := 21 }) s m args below meth c s.heap [] 0 0 Q (F0 m 4 ls []) := by
  obtain ⟨hx, hb, hml, hown, hts⟩ := id C
  obtain ⟨hK, hN⟩ := id G
  unfold f_X8_word_4 at hf
  refine lv_iload_n hx hb dX8_word_4 rfl (lv_at hl 2 rfl) ?_
  refine lv_aload_n hx hb dX8_word_5 rfl (lv_at hl 0 rfl) ?_
  refine va_get (D := (dC, dI)) (ci := 8) (v := .int ((M.1 3))) (C := RX8) (T := TX8) (N := 20) hx hb hts in_X8_word_X8 hown hK hP 0 rfl rfl 12 (by decide) (hts (.fieldLink RX8 93 "BackLoansModel" "size" "I") (by decide +kernel)) (fun _ h9 => h9) rfl dX8_word_6 ?_
  refine lv_icmp_ge (tgt := 57) hx hb dX8_word_9 (by decide) (fun c1 => ?_) (fun c1 => ?_)
  · replace hf := it_t c1 hf
    refine lv_lload_n hx hb dX8_word_57 rfl (lv_at hl 1 rfl) ?_
    exact hR _ _ _ dX8_word_58 hf
  · replace hf := it_f c1 hf
    refine lv_aload_n hx hb dX8_word_12 rfl (lv_at hl 0 rfl) ?_
    refine va_get (D := (dC, dI)) (ci := 8) (v := .int ((M.1 3))) (C := RX8) (T := TX8) (N := 20) hx hb hts in_X8_word_X8 hown hK hP 0 rfl rfl 12 (by decide) (hts (.fieldLink RX8 93 "BackLoansModel" "size" "I") (by decide +kernel)) (fun _ h9 => h9) rfl dX8_word_13 ?_
    refine lv_bipush (v := 7) hx hb dX8_word_16 (by decide) ?_
    refine lv_icmp_ge (tgt := 57) hx hb dX8_word_18 (by decide) (fun c2 => ?_) (fun c2 => ?_)
    · replace hf := it_t c2 hf
      refine lv_lload_n hx hb dX8_word_57 rfl (lv_at hl 1 rfl) ?_
      exact hR _ _ _ dX8_word_58 hf
    · replace hf := it_f c2 hf
      refine lv_aload_n hx hb dX8_word_21 rfl (lv_at hl 0 rfl) ?_
      refine va_get (D := (dC, dI)) (ci := 8) (v := .int ((M.1 4))) (C := RX8) (T := TX8) (N := 20) hx hb hts in_X8_word_X8 hown hK hP 0 rfl rfl 13 (by decide) (hts (.fieldLink RX8 99 "BackLoansModel" "sort" "I") (by decide +kernel)) (fun _ h9 => h9) rfl dX8_word_22 ?_
      refine lv_iconst (v := 1) hx hb dX8_word_25 (by decide) ?_
      refine lv_icmp_ne (tgt := 57) hx hb dX8_word_26 (by decide) (fun c3 => ?_) (fun c3 => ?_)
      · replace hf := it_f c3 hf
        refine lv_lload_n hx hb dX8_word_57 rfl (lv_at hl 1 rfl) ?_
        exact hR _ _ _ dX8_word_58 hf
      · replace hf := it_t c3 hf
        refine lv_ldc2 (v := 27) hx hb hown (hts (.constantLong RX8 102 (27)) (by decide +kernel)) dX8_word_29 ?_
        refine lv_lload_n hx hb dX8_word_32 rfl (lv_at hl 1 rfl) ?_
        refine lv_lmul hx hb dX8_word_33 ?_
        refine lv_aload_n hx hb dX8_word_34 rfl (lv_at hl 0 rfl) ?_
        refine lv_aload_n hx hb dX8_word_35 rfl (lv_at hl 0 rfl) ?_
        refine va_get (D := (dC, dI)) (ci := 8) (v := .int ((M.1 2))) (C := RX8) (T := TX8) (N := 20) hx hb hts in_X8_word_X8 hown hK hP 0 rfl rfl 11 (by decide) (hts (.fieldLink RX8 90 "BackLoansModel" "start" "I") (by decide +kernel)) (fun _ h9 => h9) rfl dX8_word_36 ?_
        refine lv_iload_n hx hb dX8_word_39 rfl (lv_at hl 2 rfl) ?_
        refine lv_iadd hx hb dX8_word_40 ?_
        obtain ⟨r41, hr41, hf⟩ := bn_e hf
        have hPc := hP.sub (ws' := (wM cs a M)) [0, 1, 2, 3, 4, 5, 6, 7, 8, 9, 10, 11] rfl
        refine vp_callSi (W.runV (As := [.int (((M.1 2) + x3))]) (rest := [.long (((27 : Int64) * x1))]) C (c_X8_byteAt l dC dI cs a M ((M.1 2) + x3) r41 hr41) (cwV 1 hts gX8_word_X8_byteAt rfl rfl rfl (by decide +kernel) ⟨Nat.le_of_ble_eq_true rfl, Nat.le_of_ble_eq_true rfl⟩) ⟨(fun a U g mk q => ⟨q.1, q.2.1, GE.calling q.2.2⟩), va_recv hK hPc (ci := 8) (q0 := 0) rfl rfl, (fun U hU hW => ⟨rfl, by rw [hU]; exact hPc, GE.warm hW G⟩)⟩ rfl rfl hl.1 rfl (lv_room (Nat.le_of_ble_eq_true rfl)) dX8_word_41 ⟨Nat.le_of_ble_eq_true rfl, Nat.le_of_ble_eq_true rfl⟩) (fun qr41 hqr41 => ?_)
        obtain rfl := hqr41.symm
        refine lv_i2l hx hb dX8_word_44 rfl ?_
        refine lv_ladd hx hb dX8_word_45 ?_
        refine lv_ldc2 (v := 96) hx hb hown (hts (.constantLong RX8 104 (96)) (by decide +kernel)) dX8_word_46 ?_
        refine lv_lsub hx hb dX8_word_49 ?_
        refine lv_topl (fun x1_50 ex1_50 => ?_)
        replace hf := lett_s ex1_50 hf
        refine lv_lstore_n (lv' := [(1, .long (x1_50)), (0, .ref (a 0)), (3, .int (x3))]) hx hb dX8_word_50 rfl hl (by decide) rfl (fun ls hl => ?_)
        obtain ⟨x3_51, ex3_51⟩ : ∃ y : Int32, y = (x3 + 1) := ⟨_, rfl⟩
        replace hf := lett_s ex3_51 hf
        refine lv_iinc (v := x3_51) (lv' := [(3, .int (x3_51)), (1, .long (x1_50)), (0, .ref (a 0))]) hx hb dX8_word_51 hl (k := 2) rfl (by rw [ex3_51]; rfl) (by decide) rfl (fun ls hl => ?_)
        refine lv_goto (tgt := 4) hx hb dX8_word_54 (by decide) ?_
        exact hK4 x1_50 x3_51 _ (lv_sub hl [2, 1, 0] rfl) hf
def l_X8_word_4 (M : Ms)  (n : Nat) (x1 : Int64) (x3 : Int32) : Option Int64 := itr (fun (k : Int64 × Int32 → Option Int64) (z : Int64 × Int32) => f_X8_word_4 z.1 z.2 M (fun x1 x3 => k (x1, x3))) n (x1, x3)
set_option maxHeartbeats 4000000 in
set_option maxRecDepth 100000 in
theorem w_X8_word_4 {p : Program} {l : Launch} {e : Env} {s : State} {m : MethodId} {args : Array Value} {below : List Frame} {meth : Method} {c : Code} {Q : State → Prop} {dC : Nat → ClassId} {dI : Nat → Nat → Nat} {cs : Nat → ClassId} {a : Nat → Nat} {res : Int64} (C : CallFix p m c cX8_word 4 s args wsX8_word RX8) (G : GE dC dI cs s) (hR : RPl p l e ({ frames := 1, cells := 0, slots := 0, locals := 21 }) s m args below meth c cX8_word Q res) {M : Ms} (hP : va_P (dC, dI) vwCl (wM cs a M) s.heap)  (_ : Ms)   : ∀ (n : Nat) (x1 : Int64) (x3 : Int32) (ls : Array Slot), lv_has ls 4 [(0, .ref (a 0)), (1, .long (x1)), (3, .int (x3))] → l_X8_word_4 M n x1 x3 = some res → W p l e ({ frames := 1, cells := 0, slots := 0, locals := 21 }) s m args below meth c s.heap [] 0 0 Q (F0 m 4 ls []) := by
  intro n
  induction n with
  | zero => intro x1 x3 ls hl hf; exact absurd hf (by simp [l_X8_word_4, itr])
  | succ n ih => intro x1 x3 ls hl hf; exact b_X8_word_4 C G hR hP x1 x3 M (K4 := fun x1 x3 => l_X8_word_4 M n x1 x3) (fun x1 x3 ls hl hf => ih x1 x3 ls hl hf) ls hl hf
def f_X8_word  (M : Ms) : Option Int64 :=
  lett (0 : Int64) fun x1_1 =>
  lett (0 : Int32) fun x3_3 =>
  l_X8_word_4 M FU x1_1 x3_3
set_option maxHeartbeats 4000000 in
set_option maxRecDepth 100000 in
theorem c_X8_word (l : Launch) (dC : Nat → ClassId) (dI : Nat → Nat → Nat) (cs : Nat → ClassId) (a : Nat → Nat) (M : Ms)  (res : Int64) (hf : f_X8_word M = some res) : Met l yX8_word wsX8_word ({ frames := 1, cells := 0, slots := 0, locals := 21 }) (va_Pc [.ref (a 0)] (fun U => va_P (dC, dI) vwCl (wM cs a M) U.heap ∧ GE dC dI cs U)) (vp_Sl (fun r => r = res)) 0 0 (fun _ => False) := by
  refine Met.ofW (cc := cX8_word) (maxL := 4) (ret := (some .long)) (by decide) rfl ?_
  intro p e s m args below meth c s₁ Bd hml hv
  obtain ⟨rfl, hP, G⟩ := hv
  have hts := atoms_spec (ws := wsX8_word) Bd.pre
  have hown : s.vm.findClass RX8 = some m.cls := findClass_of_methodNamed Bd.named
  have hlocks := Bd.notSynchronized
  have hx := Bd.exec
  have hb := Bd.bytes
  have hr := Bd.returns
  have C : CallFix p m c cX8_word 4 s _ wsX8_word RX8 := ⟨hx, hb, hml, hown, hts⟩
  obtain ⟨hK, hN⟩ := id G
  have hR : RPl p l e ({ frames := 1, cells := 0, slots := 0, locals := 21 }) s m ([.ref (a 0)] : List Value).toArray below meth c cX8_word (MQ below (vp_Sl (fun r => r = res)) ([.ref (a 0)] : List Value).toArray s 0 0 (fun _ => False)) res := fun pc ls r dd h => W.lret hx hb hr (fun t ht hW => ⟨r, rfl, Option.some.inj h, ht⟩) (fun q hq => by cases hq) dd
  have hl := lv_entry ([.ref (a 0)]) (n := 4) (Nat.le_of_ble_eq_true rfl)
  rw [lg_entry_eq]
  generalize (lg_sl ([.ref (a 0)]) ++ List.replicate (4 - (lg_sl ([.ref (a 0)])).length) Slot.unset).toArray = ls at hl ⊢
  have hl : lv_has ls 4 [(0, .ref (a 0))] := hl
  unfold f_X8_word at hf
  refine lv_lconst (v := 0) hx hb dX8_word_0 (by decide) ?_
  refine lv_topl (fun x1_1 ex1_1 => ?_)
  replace hf := lett_s ex1_1 hf
  refine lv_lstore_n (lv' := [(1, .long (x1_1)), (0, .ref (a 0))]) hx hb dX8_word_1 rfl hl (by decide) rfl (fun ls hl => ?_)
  refine lv_iconst (v := 0) hx hb dX8_word_2 (by decide) ?_
  refine lv_topi (fun x3_3 ex3_3 => ?_)
  replace hf := lett_s ex3_3 hf
  refine lv_istore_n (lv' := [(3, .int (x3_3)), (1, .long (x1_1)), (0, .ref (a 0))]) hx hb dX8_word_3 rfl hl (by decide) rfl (fun ls hl => ?_)
  exact w_X8_word_4 C G hR hP M FU x1_1 x3_3 _ (lv_sub hl [2, 1, 0] rfl) hf

def f_X8_item_70 (x1 : Int64) (s0 : Int32) (M : Ms)  : Option Int32 :=
  bn (f_X8_name (12 : Int32) (15 : Int32) (1 : Int32) (14 : Int32) (0 : Int32) (0 : Int32)) fun r81 =>
  if (lg_cmp x1 r81) = 0 then (
    some (3 : Int32)
  ) else (
    bn (f_X8_name (15 : Int32) (6 : Int32) (6 : Int32) (5 : Int32) (18 : Int32) (0 : Int32)) fun r103 =>
    if (lg_cmp x1 r103) = 0 then (
      some (4 : Int32)
    ) else (
      some s0
    )
  )
set_option maxHeartbeats 4000000 in
set_option maxRecDepth 100000 in
theorem b_X8_item_70 {p : Program} {l : Launch} {e : Env} {s : State} {m : MethodId} {args : Array Value} {below : List Frame} {meth : Method} {c : Code} {Q : State → Prop} {dC : Nat → ClassId} {dI : Nat → Nat → Nat} {cs : Nat → ClassId} {a : Nat → Nat} {res : Int32} (C : CallFix p m c cX8_item 4 s args wsX8_item RX8) (G : GE dC dI cs s) (hR : RPi p l e ({ frames := 2, cells := 0, slots := 0, locals := 44 }) s m args below meth c cX8_item Q res) {M : Ms} (hP : va_P (dC, dI) vwCl (wM cs a M) s.heap) (x1 : Int64) (s0 : Int32) (_ : Ms)   (ls : Array Slot) (hl : lv_has ls 4 [(1, .long (x1))]) (hf : f_X8_item_70 x1 s0 M = some res) : W p l e ({ frames := 2, cells := 0, slots := 0, locals := 44 }) s m args below meth c s.heap [] 0 0 Q (F0 m 70 ls [.int (s0)]) := by
  obtain ⟨hx, hb, hml, hown, hts⟩ := id C
  obtain ⟨hK, hN⟩ := id G
  unfold f_X8_item_70 at hf
  refine lv_istore_n (lv' := [(3, .int (s0)), (1, .long (x1))]) hx hb dX8_item_70 rfl hl (by decide) rfl (fun ls hl => ?_)
  refine lv_lload_n hx hb dX8_item_71 rfl (lv_at hl 1 rfl) ?_
  refine lv_bipush (v := 12) hx hb dX8_item_72 (by decide) ?_
  refine lv_bipush (v := 15) hx hb dX8_item_74 (by decide) ?_
  refine lv_iconst (v := 1) hx hb dX8_item_76 (by decide) ?_
  refine lv_bipush (v := 14) hx hb dX8_item_77 (by decide) ?_
  refine lv_iconst (v := 0) hx hb dX8_item_79 (by decide) ?_
  refine lv_iconst (v := 0) hx hb dX8_item_80 (by decide) ?_
  obtain ⟨r81, hr81, hf⟩ := bn_e hf
  have hPc := hP.sub (ws' := ([] : va_W)) [] rfl
  refine vp_callSl (W.runS (As := [.int ((12 : Int32)), .int ((15 : Int32)), .int ((1 : Int32)), .int ((14 : Int32)), .int ((0 : Int32)), .int ((0 : Int32))]) (rest := [.long (x1)]) C (c_X8_name l dC dI cs (12 : Int32) (15 : Int32) (1 : Int32) (14 : Int32) (0 : Int32) (0 : Int32) r81 hr81) (va_cwS 6 hts gX8_item_X8_name rfl rfl rfl (by decide +kernel) ⟨Nat.le_of_ble_eq_true rfl, Nat.le_of_ble_eq_true rfl⟩) ⟨(fun a U g mk q => ⟨q.1, q.2.1, GE.calling q.2.2⟩), (fun U hU hW => ⟨rfl, by rw [hU]; exact hPc, GE.warm hW G⟩)⟩ rfl rfl hl.1 rfl (lv_room (Nat.le_of_ble_eq_true rfl)) dX8_item_81 ⟨Nat.le_of_ble_eq_true rfl, Nat.le_of_ble_eq_true rfl⟩) (fun qr81 hqr81 => ?_)
  obtain rfl := hqr81.symm
  refine W.lcmp hx hb dX8_item_84 ?_
  refine lv_if_ne (tgt := 92) hx hb dX8_item_85 (by decide) (fun c1 => ?_) (fun c1 => ?_)
  · replace hf := it_f c1 hf
    refine lv_lload_n hx hb dX8_item_92 rfl (lv_at hl 1 rfl) ?_
    refine lv_bipush (v := 15) hx hb dX8_item_93 (by decide) ?_
    refine lv_bipush (v := 6) hx hb dX8_item_95 (by decide) ?_
    refine lv_bipush (v := 6) hx hb dX8_item_97 (by decide) ?_
    refine lv_iconst (v := 5) hx hb dX8_item_99 (by decide) ?_
    refine lv_bipush (v := 18) hx hb dX8_item_100 (by decide) ?_
    refine lv_iconst (v := 0) hx hb dX8_item_102 (by decide) ?_
    obtain ⟨r103, hr103, hf⟩ := bn_e hf
    have hPc := hP.sub (ws' := ([] : va_W)) [] rfl
    refine vp_callSl (W.runS (As := [.int ((15 : Int32)), .int ((6 : Int32)), .int ((6 : Int32)), .int ((5 : Int32)), .int ((18 : Int32)), .int ((0 : Int32))]) (rest := [.long (x1)]) C (c_X8_name l dC dI cs (15 : Int32) (6 : Int32) (6 : Int32) (5 : Int32) (18 : Int32) (0 : Int32) r103 hr103) (va_cwS 6 hts gX8_item_X8_name rfl rfl rfl (by decide +kernel) ⟨Nat.le_of_ble_eq_true rfl, Nat.le_of_ble_eq_true rfl⟩) ⟨(fun a U g mk q => ⟨q.1, q.2.1, GE.calling q.2.2⟩), (fun U hU hW => ⟨rfl, by rw [hU]; exact hPc, GE.warm hW G⟩)⟩ rfl rfl hl.1 rfl (lv_room (Nat.le_of_ble_eq_true rfl)) dX8_item_103 ⟨Nat.le_of_ble_eq_true rfl, Nat.le_of_ble_eq_true rfl⟩) (fun qr103 hqr103 => ?_)
    obtain rfl := hqr103.symm
    refine W.lcmp hx hb dX8_item_106 ?_
    refine lv_if_ne (tgt := 114) hx hb dX8_item_107 (by decide) (fun c2 => ?_) (fun c2 => ?_)
    · replace hf := it_f c2 hf
      refine lv_iload_n hx hb dX8_item_114 rfl (lv_at hl 0 rfl) ?_
      exact hR _ _ _ dX8_item_115 hf
    · replace hf := it_t c2 hf
      refine lv_iconst (v := 4) hx hb dX8_item_110 (by decide) ?_
      refine lv_goto (tgt := 115) hx hb dX8_item_111 (by decide) ?_
      exact hR _ _ _ dX8_item_115 hf
  · replace hf := it_t c1 hf
    refine lv_iconst (v := 3) hx hb dX8_item_88 (by decide) ?_
    refine lv_goto (tgt := 115) hx hb dX8_item_89 (by decide) ?_
    exact hR _ _ _ dX8_item_115 hf
def f_X8_item  (M : Ms) : Option Int32 :=
  bn (f_X8_word M) fun r1 =>
  bn (f_X8_name (3 : Int32) (8 : Int32) (5 : Int32) (19 : Int32) (20 : Int32) (0 : Int32)) fun r15 =>
  if (lg_cmp r1 r15) = 0 then (
    f_X8_item_70 r1 (0 : Int32) M
  ) else (
    bn (f_X8_name (18 : Int32) (1 : Int32) (20 : Int32) (5 : Int32) (0 : Int32) (0 : Int32)) fun r35 =>
    if (lg_cmp r1 r35) = 0 then (
      f_X8_item_70 r1 (1 : Int32) M
    ) else (
      bn (f_X8_name (16 : Int32) (5 : Int32) (18 : Int32) (19 : Int32) (15 : Int32) (14 : Int32)) fun r58 =>
      if (lg_cmp r1 r58) = 0 then (
        f_X8_item_70 r1 (2 : Int32) M
      ) else (
        f_X8_item_70 r1 (-1 : Int32) M
      )
    )
  )
set_option maxHeartbeats 4000000 in
set_option maxRecDepth 100000 in
theorem c_X8_item (l : Launch) (dC : Nat → ClassId) (dI : Nat → Nat → Nat) (cs : Nat → ClassId) (a : Nat → Nat) (M : Ms)  (res : Int32) (hf : f_X8_item M = some res) : Met l yX8_item wsX8_item ({ frames := 2, cells := 0, slots := 0, locals := 44 }) (va_Pc [.ref (a 0)] (fun U => va_P (dC, dI) vwCl (wM cs a M) U.heap ∧ GE dC dI cs U)) (vp_Si (fun r => r = res)) 0 0 (fun _ => False) := by
  refine Met.ofW (cc := cX8_item) (maxL := 4) (ret := (some .int)) (by decide) rfl ?_
  intro p e s m args below meth c s₁ Bd hml hv
  obtain ⟨rfl, hP, G⟩ := hv
  have hts := atoms_spec (ws := wsX8_item) Bd.pre
  have hown : s.vm.findClass RX8 = some m.cls := findClass_of_methodNamed Bd.named
  have hlocks := Bd.notSynchronized
  have hx := Bd.exec
  have hb := Bd.bytes
  have hr := Bd.returns
  have C : CallFix p m c cX8_item 4 s _ wsX8_item RX8 := ⟨hx, hb, hml, hown, hts⟩
  obtain ⟨hK, hN⟩ := id G
  have hR : RPi p l e ({ frames := 2, cells := 0, slots := 0, locals := 44 }) s m ([.ref (a 0)] : List Value).toArray below meth c cX8_item (MQ below (vp_Si (fun r => r = res)) ([.ref (a 0)] : List Value).toArray s 0 0 (fun _ => False)) res := fun pc ls r dd h => W.iret hx hb hr (fun t ht hW => ⟨r, rfl, Option.some.inj h, ht⟩) (fun q hq => by cases hq) dd
  have hl := lv_entry ([.ref (a 0)]) (n := 4) (Nat.le_of_ble_eq_true rfl)
  rw [lg_entry_eq]
  generalize (lg_sl ([.ref (a 0)]) ++ List.replicate (4 - (lg_sl ([.ref (a 0)])).length) Slot.unset).toArray = ls at hl ⊢
  have hl : lv_has ls 4 [(0, .ref (a 0))] := hl
  unfold f_X8_item at hf
  refine lv_aload_n hx hb dX8_item_0 rfl (lv_at hl 0 rfl) ?_
  obtain ⟨r1, hr1, hf⟩ := bn_e hf
  have hPc := hP.sub (ws' := (wM cs a M)) [0, 1, 2, 3, 4, 5, 6, 7, 8, 9, 10, 11] rfl
  refine vp_callSl (W.runV (As := []) (rest := []) C (c_X8_word l dC dI cs a M r1 hr1) (cwV 0 hts gX8_item_X8_word rfl rfl rfl (by decide +kernel) ⟨Nat.le_of_ble_eq_true rfl, Nat.le_of_ble_eq_true rfl⟩) ⟨(fun a U g mk q => ⟨q.1, q.2.1, GE.calling q.2.2⟩), va_recv hK hPc (ci := 8) (q0 := 0) rfl rfl, (fun U hU hW => ⟨rfl, by rw [hU]; exact hPc, GE.warm hW G⟩)⟩ rfl rfl hl.1 rfl (lv_room (Nat.le_of_ble_eq_true rfl)) dX8_item_1 ⟨Nat.le_of_ble_eq_true rfl, Nat.le_of_ble_eq_true rfl⟩) (fun qr1 hqr1 => ?_)
  obtain rfl := hqr1.symm
  refine lv_lstore_n (lv' := [(1, .long (r1)), (0, .ref (a 0))]) hx hb dX8_item_4 rfl hl (by decide) rfl (fun ls hl => ?_)
  refine lv_lload_n hx hb dX8_item_5 rfl (lv_at hl 0 rfl) ?_
  refine lv_iconst (v := 3) hx hb dX8_item_6 (by decide) ?_
  refine lv_bipush (v := 8) hx hb dX8_item_7 (by decide) ?_
  refine lv_iconst (v := 5) hx hb dX8_item_9 (by decide) ?_
  refine lv_bipush (v := 19) hx hb dX8_item_10 (by decide) ?_
  refine lv_bipush (v := 20) hx hb dX8_item_12 (by decide) ?_
  refine lv_iconst (v := 0) hx hb dX8_item_14 (by decide) ?_
  obtain ⟨r15, hr15, hf⟩ := bn_e hf
  have hPc := hP.sub (ws' := ([] : va_W)) [] rfl
  refine vp_callSl (W.runS (As := [.int ((3 : Int32)), .int ((8 : Int32)), .int ((5 : Int32)), .int ((19 : Int32)), .int ((20 : Int32)), .int ((0 : Int32))]) (rest := [.long (r1)]) C (c_X8_name l dC dI cs (3 : Int32) (8 : Int32) (5 : Int32) (19 : Int32) (20 : Int32) (0 : Int32) r15 hr15) (va_cwS 6 hts gX8_item_X8_name rfl rfl rfl (by decide +kernel) ⟨Nat.le_of_ble_eq_true rfl, Nat.le_of_ble_eq_true rfl⟩) ⟨(fun a U g mk q => ⟨q.1, q.2.1, GE.calling q.2.2⟩), (fun U hU hW => ⟨rfl, by rw [hU]; exact hPc, GE.warm hW G⟩)⟩ rfl rfl hl.1 rfl (lv_room (Nat.le_of_ble_eq_true rfl)) dX8_item_15 ⟨Nat.le_of_ble_eq_true rfl, Nat.le_of_ble_eq_true rfl⟩) (fun qr15 hqr15 => ?_)
  obtain rfl := hqr15.symm
  refine W.lcmp hx hb dX8_item_18 ?_
  refine lv_if_ne (tgt := 26) hx hb dX8_item_19 (by decide) (fun c1 => ?_) (fun c1 => ?_)
  · replace hf := it_f c1 hf
    refine lv_lload_n hx hb dX8_item_26 rfl (lv_at hl 0 rfl) ?_
    refine lv_bipush (v := 18) hx hb dX8_item_27 (by decide) ?_
    refine lv_iconst (v := 1) hx hb dX8_item_29 (by decide) ?_
    refine lv_bipush (v := 20) hx hb dX8_item_30 (by decide) ?_
    refine lv_iconst (v := 5) hx hb dX8_item_32 (by decide) ?_
    refine lv_iconst (v := 0) hx hb dX8_item_33 (by decide) ?_
    refine lv_iconst (v := 0) hx hb dX8_item_34 (by decide) ?_
    obtain ⟨r35, hr35, hf⟩ := bn_e hf
    have hPc := hP.sub (ws' := ([] : va_W)) [] rfl
    refine vp_callSl (W.runS (As := [.int ((18 : Int32)), .int ((1 : Int32)), .int ((20 : Int32)), .int ((5 : Int32)), .int ((0 : Int32)), .int ((0 : Int32))]) (rest := [.long (r1)]) C (c_X8_name l dC dI cs (18 : Int32) (1 : Int32) (20 : Int32) (5 : Int32) (0 : Int32) (0 : Int32) r35 hr35) (va_cwS 6 hts gX8_item_X8_name rfl rfl rfl (by decide +kernel) ⟨Nat.le_of_ble_eq_true rfl, Nat.le_of_ble_eq_true rfl⟩) ⟨(fun a U g mk q => ⟨q.1, q.2.1, GE.calling q.2.2⟩), (fun U hU hW => ⟨rfl, by rw [hU]; exact hPc, GE.warm hW G⟩)⟩ rfl rfl hl.1 rfl (lv_room (Nat.le_of_ble_eq_true rfl)) dX8_item_35 ⟨Nat.le_of_ble_eq_true rfl, Nat.le_of_ble_eq_true rfl⟩) (fun qr35 hqr35 => ?_)
    obtain rfl := hqr35.symm
    refine W.lcmp hx hb dX8_item_38 ?_
    refine lv_if_ne (tgt := 46) hx hb dX8_item_39 (by decide) (fun c2 => ?_) (fun c2 => ?_)
    · replace hf := it_f c2 hf
      refine lv_lload_n hx hb dX8_item_46 rfl (lv_at hl 0 rfl) ?_
      refine lv_bipush (v := 16) hx hb dX8_item_47 (by decide) ?_
      refine lv_iconst (v := 5) hx hb dX8_item_49 (by decide) ?_
      refine lv_bipush (v := 18) hx hb dX8_item_50 (by decide) ?_
      refine lv_bipush (v := 19) hx hb dX8_item_52 (by decide) ?_
      refine lv_bipush (v := 15) hx hb dX8_item_54 (by decide) ?_
      refine lv_bipush (v := 14) hx hb dX8_item_56 (by decide) ?_
      obtain ⟨r58, hr58, hf⟩ := bn_e hf
      have hPc := hP.sub (ws' := ([] : va_W)) [] rfl
      refine vp_callSl (W.runS (As := [.int ((16 : Int32)), .int ((5 : Int32)), .int ((18 : Int32)), .int ((19 : Int32)), .int ((15 : Int32)), .int ((14 : Int32))]) (rest := [.long (r1)]) C (c_X8_name l dC dI cs (16 : Int32) (5 : Int32) (18 : Int32) (19 : Int32) (15 : Int32) (14 : Int32) r58 hr58) (va_cwS 6 hts gX8_item_X8_name rfl rfl rfl (by decide +kernel) ⟨Nat.le_of_ble_eq_true rfl, Nat.le_of_ble_eq_true rfl⟩) ⟨(fun a U g mk q => ⟨q.1, q.2.1, GE.calling q.2.2⟩), (fun U hU hW => ⟨rfl, by rw [hU]; exact hPc, GE.warm hW G⟩)⟩ rfl rfl hl.1 rfl (lv_room (Nat.le_of_ble_eq_true rfl)) dX8_item_58 ⟨Nat.le_of_ble_eq_true rfl, Nat.le_of_ble_eq_true rfl⟩) (fun qr58 hqr58 => ?_)
      obtain rfl := hqr58.symm
      refine W.lcmp hx hb dX8_item_61 ?_
      refine lv_if_ne (tgt := 69) hx hb dX8_item_62 (by decide) (fun c3 => ?_) (fun c3 => ?_)
      · replace hf := it_f c3 hf
        refine lv_iconst (v := -1) hx hb dX8_item_69 (by decide) ?_
        exact b_X8_item_70 C G hR hP r1 (-1 : Int32) M _ (lv_sub hl [0] rfl) hf
      · replace hf := it_t c3 hf
        refine lv_iconst (v := 2) hx hb dX8_item_65 (by decide) ?_
        refine lv_goto (tgt := 70) hx hb dX8_item_66 (by decide) ?_
        exact b_X8_item_70 C G hR hP r1 (2 : Int32) M _ (lv_sub hl [0] rfl) hf
    · replace hf := it_t c2 hf
      refine lv_iconst (v := 1) hx hb dX8_item_42 (by decide) ?_
      refine lv_goto (tgt := 70) hx hb dX8_item_43 (by decide) ?_
      exact b_X8_item_70 C G hR hP r1 (1 : Int32) M _ (lv_sub hl [0] rfl) hf
  · replace hf := it_t c1 hf
    refine lv_iconst (v := 0) hx hb dX8_item_22 (by decide) ?_
    refine lv_goto (tgt := 70) hx hb dX8_item_23 (by decide) ?_
    exact b_X8_item_70 C G hR hP r1 (0 : Int32) M _ (lv_sub hl [0] rfl) hf

theorem in_X8_mayBegin_X8 : ∀ w ∈ wsX80, w ∈ wsX8_mayBegin := by decide +kernel
def f_X8_mayBegin_72 (M : Ms)  : Option Int32 :=
  some (1 : Int32)
set_option maxHeartbeats 4000000 in
set_option maxRecDepth 100000 in
theorem b_X8_mayBegin_72 {p : Program} {l : Launch} {e : Env} {s : State} {m : MethodId} {args : Array Value} {below : List Frame} {meth : Method} {c : Code} {Q : State → Prop} {dC : Nat → ClassId} {dI : Nat → Nat → Nat} {cs : Nat → ClassId} {a : Nat → Nat} {res : Int32} (C : CallFix p m c cX8_mayBegin 3 s args wsX8_mayBegin RX8) (G : GE dC dI cs s) (hR : RPz p l e ({ frames := 0, cells := 0, slots := 0, locals := 0 }) s m args below meth c cX8_mayBegin Q res) {M : Ms} (hP : va_P (dC, dI) vwCl (wM cs a M) s.heap)  (_ : Ms)   (ls : Array Slot) (hl : lv_has ls 3 []) (hf : f_X8_mayBegin_72 M = some res) : W p l e ({ frames := 0, cells := 0, slots := 0, locals := 0 }) s m args below meth c s.heap [] 0 0 Q (F0 m 72 ls []) := by
  obtain ⟨hx, hb, hml, hown, hts⟩ := id C
  obtain ⟨hK, hN⟩ := id G
  unfold f_X8_mayBegin_72 at hf
  refine lv_iconst (v := 1) hx hb dX8_mayBegin_72 (by decide) ?_
  refine lv_goto (tgt := 77) hx hb dX8_mayBegin_73 (by decide) ?_
  exact hR _ _ _ dX8_mayBegin_77 (by decide) hf
def f_X8_mayBegin_69 (s0 : Int32) (s1 : Int32) (M : Ms)  : Option Int32 :=
  if s1 ≤ s0 then (
    some (0 : Int32)
  ) else (
    f_X8_mayBegin_72 M
  )
set_option maxHeartbeats 4000000 in
set_option maxRecDepth 100000 in
theorem b_X8_mayBegin_69 {p : Program} {l : Launch} {e : Env} {s : State} {m : MethodId} {args : Array Value} {below : List Frame} {meth : Method} {c : Code} {Q : State → Prop} {dC : Nat → ClassId} {dI : Nat → Nat → Nat} {cs : Nat → ClassId} {a : Nat → Nat} {res : Int32} (C : CallFix p m c cX8_mayBegin 3 s args wsX8_mayBegin RX8) (G : GE dC dI cs s) (hR : RPz p l e ({ frames := 0, cells := 0, slots := 0, locals := 0 }) s m args below meth c cX8_mayBegin Q res) {M : Ms} (hP : va_P (dC, dI) vwCl (wM cs a M) s.heap) (s0 : Int32) (s1 : Int32) (_ : Ms)   (ls : Array Slot) (hl : lv_has ls 3 []) (hf : f_X8_mayBegin_69 s0 s1 M = some res) : W p l e ({ frames := 0, cells := 0, slots := 0, locals := 0 }) s m args below meth c s.heap [] 0 0 Q (F0 m 69 ls [.int (s1), .int (s0)]) := by
  obtain ⟨hx, hb, hml, hown, hts⟩ := id C
  obtain ⟨hK, hN⟩ := id G
  unfold f_X8_mayBegin_69 at hf
  refine lv_icmp_ge (tgt := 76) hx hb dX8_mayBegin_69 (by decide) (fun c1 => ?_) (fun c1 => ?_)
  · replace hf := it_t c1 hf
    refine lv_iconst (v := 0) hx hb dX8_mayBegin_76 (by decide) ?_
    exact hR _ _ _ dX8_mayBegin_77 (by decide) hf
  · replace hf := it_f c1 hf
    exact b_X8_mayBegin_72 C G hR hP M _ (lv_sub hl [] rfl) hf
def f_X8_mayBegin_56 (x1 : Int32) (s1 : Int32) (M : Ms)  : Option Int32 :=
  gi (s1) 362 <|
  if x1 = (2 : Int32) then (
    f_X8_mayBegin_69 ((M.2.2 2) (s1).toNatClampNeg) (6 : Int32) M
  ) else (
    f_X8_mayBegin_69 ((M.2.2 2) (s1).toNatClampNeg) (8 : Int32) M
  )
set_option maxHeartbeats 4000000 in
set_option maxRecDepth 100000 in
theorem b_X8_mayBegin_56 {p : Program} {l : Launch} {e : Env} {s : State} {m : MethodId} {args : Array Value} {below : List Frame} {meth : Method} {c : Code} {Q : State → Prop} {dC : Nat → ClassId} {dI : Nat → Nat → Nat} {cs : Nat → ClassId} {a : Nat → Nat} {res : Int32} (C : CallFix p m c cX8_mayBegin 3 s args wsX8_mayBegin RX8) (G : GE dC dI cs s) (hR : RPz p l e ({ frames := 0, cells := 0, slots := 0, locals := 0 }) s m args below meth c cX8_mayBegin Q res) {M : Ms} (hP : va_P (dC, dI) vwCl (wM cs a M) s.heap) (x1 : Int32) (s1 : Int32) (_ : Ms)   (ls : Array Slot) (hl : lv_has ls 3 [(1, .int (x1))]) (hf : f_X8_mayBegin_56 x1 s1 M = some res) : W p l e ({ frames := 0, cells := 0, slots := 0, locals := 0 }) s m args below meth c s.heap [] 0 0 Q (F0 m 56 ls [.int (s1), .ref (a 3)]) := by
  obtain ⟨hx, hb, hml, hown, hts⟩ := id C
  obtain ⟨hK, hN⟩ := id G
  unfold f_X8_mayBegin_56 at hf
  obtain ⟨hi1, hf⟩ := gi_e hf
  refine va_iald hx hb hK hP 3 0 rfl rfl hi1 dX8_mayBegin_56 ?_
  refine lv_iload_n hx hb dX8_mayBegin_57 rfl (lv_at hl 0 rfl) ?_
  refine lv_iconst (v := 2) hx hb dX8_mayBegin_58 (by decide) ?_
  refine lv_icmp_ne (tgt := 67) hx hb dX8_mayBegin_59 (by decide) (fun c2 => ?_) (fun c2 => ?_)
  · replace hf := it_f c2 hf
    refine lv_bipush (v := 8) hx hb dX8_mayBegin_67 (by decide) ?_
    exact b_X8_mayBegin_69 C G hR hP ((M.2.2 2) (s1).toNatClampNeg) (8 : Int32) M _ (lv_sub hl [] rfl) hf
  · replace hf := it_t c2 hf
    refine lv_bipush (v := 6) hx hb dX8_mayBegin_62 (by decide) ?_
    refine lv_goto (tgt := 69) hx hb dX8_mayBegin_64 (by decide) ?_
    exact b_X8_mayBegin_69 C G hR hP ((M.2.2 2) (s1).toNatClampNeg) (6 : Int32) M _ (lv_sub hl [] rfl) hf
def f_X8_mayBegin_23 (x1 : Int32) (s0 : Int32) (s1 : Int32) (M : Ms)  : Option Int32 :=
  if s0 = s1 then (
    if x1 < (2 : Int32) then (
      f_X8_mayBegin_72 M
    ) else (
      if x1 = (2 : Int32) then (
        f_X8_mayBegin_56 x1 (3 : Int32) M
      ) else (
        if x1 = (3 : Int32) then (
          f_X8_mayBegin_56 x1 (4 : Int32) M
        ) else (
          f_X8_mayBegin_56 x1 (5 : Int32) M
        )
      )
    )
  ) else (
    some (0 : Int32)
  )
set_option maxHeartbeats 4000000 in
set_option maxRecDepth 100000 in
theorem b_X8_mayBegin_23 {p : Program} {l : Launch} {e : Env} {s : State} {m : MethodId} {args : Array Value} {below : List Frame} {meth : Method} {c : Code} {Q : State → Prop} {dC : Nat → ClassId} {dI : Nat → Nat → Nat} {cs : Nat → ClassId} {a : Nat → Nat} {res : Int32} (C : CallFix p m c cX8_mayBegin 3 s args wsX8_mayBegin RX8) (G : GE dC dI cs s) (hR : RPz p l e ({ frames := 0, cells := 0, slots := 0, locals := 0 }) s m args below meth c cX8_mayBegin Q res) {M : Ms} (hP : va_P (dC, dI) vwCl (wM cs a M) s.heap) (x1 : Int32) (s0 : Int32) (s1 : Int32) (_ : Ms)   (ls : Array Slot) (hl : lv_has ls 3 [(0, .ref (a 0)), (1, .int (x1))]) (hf : f_X8_mayBegin_23 x1 s0 s1 M = some res) : W p l e ({ frames := 0, cells := 0, slots := 0, locals := 0 }) s m args below meth c s.heap [] 0 0 Q (F0 m 23 ls [.int (s1), .int (s0)]) := by
  obtain ⟨hx, hb, hml, hown, hts⟩ := id C
  obtain ⟨hK, hN⟩ := id G
  unfold f_X8_mayBegin_23 at hf
  refine lv_icmp_eq (tgt := 28) hx hb dX8_mayBegin_23 (by decide) (fun c1 => ?_) (fun c1 => ?_)
  · replace hf := it_t c1 hf
    refine lv_iload_n hx hb dX8_mayBegin_28 rfl (lv_at hl 1 rfl) ?_
    refine lv_iconst (v := 2) hx hb dX8_mayBegin_29 (by decide) ?_
    refine lv_icmp_lt (tgt := 72) hx hb dX8_mayBegin_30 (by decide) (fun c2 => ?_) (fun c2 => ?_)
    · replace hf := it_t c2 hf
      exact b_X8_mayBegin_72 C G hR hP M _ (lv_sub hl [] rfl) hf
    · replace hf := it_f c2 hf
      refine lv_aload_n hx hb dX8_mayBegin_33 rfl (lv_at hl 0 rfl) ?_
      refine va_get (D := (dC, dI)) (ci := 8) (v := .ref (a 3)) (C := RX8) (T := TX8) (N := 20) hx hb hts in_X8_mayBegin_X8 hown hK hP 0 rfl rfl 2 (by decide) (hts (.fieldLink RX8 16 "BackLoansModel" "draft" "[I") (by decide +kernel)) (fun _ h9 => h9) rfl dX8_mayBegin_34 ?_
      refine lv_iload_n hx hb dX8_mayBegin_37 rfl (lv_at hl 1 rfl) ?_
      refine lv_iconst (v := 2) hx hb dX8_mayBegin_38 (by decide) ?_
      refine lv_icmp_ne (tgt := 46) hx hb dX8_mayBegin_39 (by decide) (fun c3 => ?_) (fun c3 => ?_)
      · replace hf := it_f c3 hf
        refine lv_iload_n hx hb dX8_mayBegin_46 rfl (lv_at hl 1 rfl) ?_
        refine lv_iconst (v := 3) hx hb dX8_mayBegin_47 (by decide) ?_
        refine lv_icmp_ne (tgt := 55) hx hb dX8_mayBegin_48 (by decide) (fun c4 => ?_) (fun c4 => ?_)
        · replace hf := it_f c4 hf
          refine lv_iconst (v := 5) hx hb dX8_mayBegin_55 (by decide) ?_
          exact b_X8_mayBegin_56 C G hR hP x1 (5 : Int32) M _ (lv_sub hl [1] rfl) hf
        · replace hf := it_t c4 hf
          refine lv_iconst (v := 4) hx hb dX8_mayBegin_51 (by decide) ?_
          refine lv_goto (tgt := 56) hx hb dX8_mayBegin_52 (by decide) ?_
          exact b_X8_mayBegin_56 C G hR hP x1 (4 : Int32) M _ (lv_sub hl [1] rfl) hf
      · replace hf := it_t c3 hf
        refine lv_iconst (v := 3) hx hb dX8_mayBegin_42 (by decide) ?_
        refine lv_goto (tgt := 56) hx hb dX8_mayBegin_43 (by decide) ?_
        exact b_X8_mayBegin_56 C G hR hP x1 (3 : Int32) M _ (lv_sub hl [1] rfl) hf
  · replace hf := it_f c1 hf
    refine lv_iconst (v := 0) hx hb dX8_mayBegin_26 (by decide) ?_
    exact hR _ _ _ dX8_mayBegin_27 (by decide) hf
def f_X8_mayBegin_14 (x1 : Int32) (x2 : Int32) (s0 : Int32) (M : Ms)  : Option Int32 :=
  if x2 = 0 then (
    f_X8_mayBegin_23 x1 s0 (1 : Int32) M
  ) else (
    f_X8_mayBegin_23 x1 s0 (0 : Int32) M
  )
set_option maxHeartbeats 4000000 in
set_option maxRecDepth 100000 in
theorem b_X8_mayBegin_14 {p : Program} {l : Launch} {e : Env} {s : State} {m : MethodId} {args : Array Value} {below : List Frame} {meth : Method} {c : Code} {Q : State → Prop} {dC : Nat → ClassId} {dI : Nat → Nat → Nat} {cs : Nat → ClassId} {a : Nat → Nat} {res : Int32} (C : CallFix p m c cX8_mayBegin 3 s args wsX8_mayBegin RX8) (G : GE dC dI cs s) (hR : RPz p l e ({ frames := 0, cells := 0, slots := 0, locals := 0 }) s m args below meth c cX8_mayBegin Q res) {M : Ms} (hP : va_P (dC, dI) vwCl (wM cs a M) s.heap) (x1 : Int32) (x2 : Int32) (s0 : Int32) (_ : Ms)   (ls : Array Slot) (hl : lv_has ls 3 [(0, .ref (a 0)), (1, .int (x1)), (2, .int (x2))]) (hf : f_X8_mayBegin_14 x1 x2 s0 M = some res) : W p l e ({ frames := 0, cells := 0, slots := 0, locals := 0 }) s m args below meth c s.heap [] 0 0 Q (F0 m 14 ls [.int (s0)]) := by
  obtain ⟨hx, hb, hml, hown, hts⟩ := id C
  obtain ⟨hK, hN⟩ := id G
  unfold f_X8_mayBegin_14 at hf
  refine lv_iload_n hx hb dX8_mayBegin_14 rfl (lv_at hl 2 rfl) ?_
  refine lv_if_ne (tgt := 22) hx hb dX8_mayBegin_15 (by decide) (fun c1 => ?_) (fun c1 => ?_)
  · replace hf := it_f c1 hf
    refine lv_iconst (v := 0) hx hb dX8_mayBegin_22 (by decide) ?_
    exact b_X8_mayBegin_23 C G hR hP x1 s0 (0 : Int32) M _ (lv_sub hl [0, 1] rfl) hf
  · replace hf := it_t c1 hf
    refine lv_iconst (v := 1) hx hb dX8_mayBegin_18 (by decide) ?_
    refine lv_goto (tgt := 23) hx hb dX8_mayBegin_19 (by decide) ?_
    exact b_X8_mayBegin_23 C G hR hP x1 s0 (1 : Int32) M _ (lv_sub hl [0, 1] rfl) hf
def f_X8_mayBegin (x1 : Int32) (x2 : Int32) (M : Ms) : Option Int32 :=
  if x1 = (-1 : Int32) then (
    some (0 : Int32)
  ) else (
    if x1 = 0 then (
      f_X8_mayBegin_14 x1 x2 (1 : Int32) M
    ) else (
      f_X8_mayBegin_14 x1 x2 (0 : Int32) M
    )
  )
set_option maxHeartbeats 4000000 in
set_option maxRecDepth 100000 in
theorem c_X8_mayBegin (l : Launch) (dC : Nat → ClassId) (dI : Nat → Nat → Nat) (cs : Nat → ClassId) (a : Nat → Nat) (M : Ms) (x1 : Int32) (x2 : Int32) (res : Int32) (hf : f_X8_mayBegin x1 x2 M = some res) : Met l yX8_mayBegin wsX8_mayBegin ({ frames := 0, cells := 0, slots := 0, locals := 0 }) (va_Pc [.ref (a 0), .int (x1), .int (x2)] (fun U => va_P (dC, dI) vwCl (wM cs a M) U.heap ∧ GE dC dI cs U)) (vp_Si (fun r => r = res ∧ narrow .boolean (.int r) = .int r)) 0 0 (fun _ => False) := by
  refine Met.ofW (cc := cX8_mayBegin) (maxL := 3) (ret := (some .boolean)) (by decide) rfl ?_
  intro p e s m args below meth c s₁ Bd hml hv
  obtain ⟨rfl, hP, G⟩ := hv
  have hts := atoms_spec (ws := wsX8_mayBegin) Bd.pre
  have hown : s.vm.findClass RX8 = some m.cls := findClass_of_methodNamed Bd.named
  have hlocks := Bd.notSynchronized
  have hx := Bd.exec
  have hb := Bd.bytes
  have hr := Bd.returns
  have C : CallFix p m c cX8_mayBegin 3 s _ wsX8_mayBegin RX8 := ⟨hx, hb, hml, hown, hts⟩
  obtain ⟨hK, hN⟩ := id G
  have hR : RPz p l e ({ frames := 0, cells := 0, slots := 0, locals := 0 }) s m ([.ref (a 0), .int (x1), .int (x2)] : List Value).toArray below meth c cX8_mayBegin (MQ below (vp_Si (fun r => r = res ∧ narrow .boolean (.int r) = .int r)) ([.ref (a 0), .int (x1), .int (x2)] : List Value).toArray s 0 0 (fun _ => False)) res := fun pc ls r dd hn h => W.zret hx hb hr hn (fun t ht hW => ⟨r, rfl, ⟨Option.some.inj h, hn⟩, ht⟩) (fun q hq => by cases hq) dd
  have hl := lv_entry ([.ref (a 0), .int (x1), .int (x2)]) (n := 3) (Nat.le_of_ble_eq_true rfl)
  rw [lg_entry_eq]
  generalize (lg_sl ([.ref (a 0), .int (x1), .int (x2)]) ++ List.replicate (3 - (lg_sl ([.ref (a 0), .int (x1), .int (x2)])).length) Slot.unset).toArray = ls at hl ⊢
  have hl : lv_has ls 3 [(0, .ref (a 0)), (1, .int (x1)), (2, .int (x2))] := hl
  unfold f_X8_mayBegin at hf
  refine lv_iload_n hx hb dX8_mayBegin_0 rfl (lv_at hl 1 rfl) ?_
  refine lv_iconst (v := -1) hx hb dX8_mayBegin_1 (by decide) ?_
  refine lv_icmp_eq (tgt := 26) hx hb dX8_mayBegin_2 (by decide) (fun c1 => ?_) (fun c1 => ?_)
  · replace hf := it_t c1 hf
    refine lv_iconst (v := 0) hx hb dX8_mayBegin_26 (by decide) ?_
    exact hR _ _ _ dX8_mayBegin_27 (by decide) hf
  · replace hf := it_f c1 hf
    refine lv_iload_n hx hb dX8_mayBegin_5 rfl (lv_at hl 1 rfl) ?_
    refine lv_if_ne (tgt := 13) hx hb dX8_mayBegin_6 (by decide) (fun c2 => ?_) (fun c2 => ?_)
    · replace hf := it_f c2 hf
      refine lv_iconst (v := 0) hx hb dX8_mayBegin_13 (by decide) ?_
      exact b_X8_mayBegin_14 C G hR hP x1 x2 (0 : Int32) M _ (lv_sub hl [0, 1, 2] rfl) hf
    · replace hf := it_t c2 hf
      refine lv_iconst (v := 1) hx hb dX8_mayBegin_9 (by decide) ?_
      refine lv_goto (tgt := 14) hx hb dX8_mayBegin_10 (by decide) ?_
      exact b_X8_mayBegin_14 C G hR hP x1 x2 (1 : Int32) M _ (lv_sub hl [0, 1, 2] rfl) hf

def f_X8_sortOf (x0 : Int32)  : Option Int32 :=
  if 0 ≤ x0 then (
    bn (f_X8_in x0 (97 : Int32) (122 : Int32)) fun r13 =>
    if r13 = 0 then (
      bn (f_X8_in x0 (48 : Int32) (57 : Int32)) fun r28 =>
      if r28 = 0 then (
        if x0 = (59 : Int32) then (
          some (3 : Int32)
        ) else (
          some (4 : Int32)
        )
      ) else (
        some (2 : Int32)
      )
    ) else (
      some (1 : Int32)
    )
  ) else (
    some (0 : Int32)
  )
set_option maxHeartbeats 4000000 in
set_option maxRecDepth 100000 in
theorem c_X8_sortOf (l : Launch) (dC : Nat → ClassId) (dI : Nat → Nat → Nat) (cs : Nat → ClassId)  (x0 : Int32) (res : Int32) (hf : f_X8_sortOf x0 = some res) : Met l yX8_sortOf wsX8_sortOf ({ frames := 1, cells := 0, slots := 0, locals := 22 }) (va_Pc [.int (x0)] (fun U => va_P (dC, dI) vwCl ([] : va_W) U.heap ∧ GE dC dI cs U)) (vp_Si (fun r => r = res)) 0 0 (fun _ => False) := by
  refine Met.ofW (cc := cX8_sortOf) (maxL := 1) (ret := (some .int)) (by decide) rfl ?_
  intro p e s m args below meth c s₁ Bd hml hv
  obtain ⟨rfl, hP, G⟩ := hv
  have hts := atoms_spec (ws := wsX8_sortOf) Bd.pre
  have hown : s.vm.findClass RX8 = some m.cls := findClass_of_methodNamed Bd.named
  have hlocks := Bd.notSynchronized
  have hx := Bd.exec
  have hb := Bd.bytes
  have hr := Bd.returns
  have C : CallFix p m c cX8_sortOf 1 s _ wsX8_sortOf RX8 := ⟨hx, hb, hml, hown, hts⟩
  obtain ⟨hK, hN⟩ := id G
  have hR : RPi p l e ({ frames := 1, cells := 0, slots := 0, locals := 22 }) s m ([.int (x0)] : List Value).toArray below meth c cX8_sortOf (MQ below (vp_Si (fun r => r = res)) ([.int (x0)] : List Value).toArray s 0 0 (fun _ => False)) res := fun pc ls r dd h => W.iret hx hb hr (fun t ht hW => ⟨r, rfl, Option.some.inj h, ht⟩) (fun q hq => by cases hq) dd
  have hl := lv_entry ([.int (x0)]) (n := 1) (Nat.le_of_ble_eq_true rfl)
  rw [lg_entry_eq]
  generalize (lg_sl ([.int (x0)]) ++ List.replicate (1 - (lg_sl ([.int (x0)])).length) Slot.unset).toArray = ls at hl ⊢
  have hl : lv_has ls 1 [(0, .int (x0))] := hl
  unfold f_X8_sortOf at hf
  refine lv_iload_n hx hb dX8_sortOf_0 rfl (lv_at hl 0 rfl) ?_
  refine lv_if_ge (tgt := 8) hx hb dX8_sortOf_1 (by decide) (fun c1 => ?_) (fun c1 => ?_)
  · replace hf := it_t c1 hf
    refine lv_iload_n hx hb dX8_sortOf_8 rfl (lv_at hl 0 rfl) ?_
    refine lv_bipush (v := 97) hx hb dX8_sortOf_9 (by decide) ?_
    refine lv_bipush (v := 122) hx hb dX8_sortOf_11 (by decide) ?_
    obtain ⟨r13, hr13, hf⟩ := bn_e hf
    have hPc := hP.sub (ws' := ([] : va_W)) [] rfl
    refine vp_callSi (W.runS (As := [.int (x0), .int ((97 : Int32)), .int ((122 : Int32))]) (rest := []) C (c_X8_in l dC dI cs x0 (97 : Int32) (122 : Int32) r13 hr13) (va_cwS 3 hts gX8_sortOf_X8_in rfl rfl rfl (by decide +kernel) ⟨Nat.le_of_ble_eq_true rfl, Nat.le_of_ble_eq_true rfl⟩) ⟨(fun a U g mk q => ⟨q.1, q.2.1, GE.calling q.2.2⟩), (fun U hU hW => ⟨rfl, by rw [hU]; exact hPc, GE.warm hW G⟩)⟩ rfl rfl hl.1 rfl (lv_room (Nat.le_of_ble_eq_true rfl)) dX8_sortOf_13 ⟨Nat.le_of_ble_eq_true rfl, Nat.le_of_ble_eq_true rfl⟩) (fun qr13 hqr13 => ?_)
    obtain ⟨hqr13, hnr13⟩ := hqr13
    obtain rfl := hqr13.symm
    refine lv_if_eq (tgt := 23) hx hb dX8_sortOf_16 (by decide) (fun c2 => ?_) (fun c2 => ?_)
    · replace hf := it_t c2 hf
      refine lv_iload_n hx hb dX8_sortOf_23 rfl (lv_at hl 0 rfl) ?_
      refine lv_bipush (v := 48) hx hb dX8_sortOf_24 (by decide) ?_
      refine lv_bipush (v := 57) hx hb dX8_sortOf_26 (by decide) ?_
      obtain ⟨r28, hr28, hf⟩ := bn_e hf
      have hPc := hP.sub (ws' := ([] : va_W)) [] rfl
      refine vp_callSi (W.runS (As := [.int (x0), .int ((48 : Int32)), .int ((57 : Int32))]) (rest := []) C (c_X8_in l dC dI cs x0 (48 : Int32) (57 : Int32) r28 hr28) (va_cwS 3 hts gX8_sortOf_X8_in rfl rfl rfl (by decide +kernel) ⟨Nat.le_of_ble_eq_true rfl, Nat.le_of_ble_eq_true rfl⟩) ⟨(fun a U g mk q => ⟨q.1, q.2.1, GE.calling q.2.2⟩), (fun U hU hW => ⟨rfl, by rw [hU]; exact hPc, GE.warm hW G⟩)⟩ rfl rfl hl.1 rfl (lv_room (Nat.le_of_ble_eq_true rfl)) dX8_sortOf_28 ⟨Nat.le_of_ble_eq_true rfl, Nat.le_of_ble_eq_true rfl⟩) (fun qr28 hqr28 => ?_)
      obtain ⟨hqr28, hnr28⟩ := hqr28
      obtain rfl := hqr28.symm
      refine lv_if_eq (tgt := 38) hx hb dX8_sortOf_31 (by decide) (fun c3 => ?_) (fun c3 => ?_)
      · replace hf := it_t c3 hf
        refine lv_iload_n hx hb dX8_sortOf_38 rfl (lv_at hl 0 rfl) ?_
        refine lv_bipush (v := 59) hx hb dX8_sortOf_39 (by decide) ?_
        refine lv_icmp_ne (tgt := 48) hx hb dX8_sortOf_41 (by decide) (fun c4 => ?_) (fun c4 => ?_)
        · replace hf := it_f c4 hf
          refine lv_iconst (v := 4) hx hb dX8_sortOf_48 (by decide) ?_
          exact hR _ _ _ dX8_sortOf_49 hf
        · replace hf := it_t c4 hf
          refine lv_iconst (v := 3) hx hb dX8_sortOf_44 (by decide) ?_
          refine lv_goto (tgt := 49) hx hb dX8_sortOf_45 (by decide) ?_
          exact hR _ _ _ dX8_sortOf_49 hf
      · replace hf := it_f c3 hf
        refine lv_iconst (v := 2) hx hb dX8_sortOf_34 (by decide) ?_
        refine lv_goto (tgt := 49) hx hb dX8_sortOf_35 (by decide) ?_
        exact hR _ _ _ dX8_sortOf_49 hf
    · replace hf := it_f c2 hf
      refine lv_iconst (v := 1) hx hb dX8_sortOf_19 (by decide) ?_
      refine lv_goto (tgt := 49) hx hb dX8_sortOf_20 (by decide) ?_
      exact hR _ _ _ dX8_sortOf_49 hf
  · replace hf := it_f c1 hf
    refine lv_iconst (v := 0) hx hb dX8_sortOf_4 (by decide) ?_
    refine lv_goto (tgt := 49) hx hb dX8_sortOf_5 (by decide) ?_
    exact hR _ _ _ dX8_sortOf_49 hf

theorem in_X8_token_X8 : ∀ w ∈ wsX80, w ∈ wsX8_token := by decide +kernel
def f_X8_token_0 (M : Ms) (K0 : Ms → Option Ms) (K26 : Ms → Option Ms) : Option Ms :=
  bn (f_X8_byteAt (M.1 1) M) fun r5 =>
  if r5 = (32 : Int32) then (
    lett ((upd M.1 1 (((M.1 1) + (1 : Int32))), M.2)) fun M_20 =>
    K0 M_20
  ) else (
    K26 M
  )
set_option maxHeartbeats 4000000 in
set_option maxRecDepth 100000 in
theorem b_X8_token_0 {p : Program} {l : Launch} {e : Env} {s : State} {m : MethodId} {args : Array Value} {below : List Frame} {meth : Method} {c : Code} {Q : State → Prop} {dC : Nat → ClassId} {dI : Nat → Nat → Nat} {cs : Nat → ClassId} {A : Nat → Prop} {a : Nat → Nat} {res : Ms} (C : CallFix p m c cX8_token 1 s args wsX8_token RX8) (G : GE dC dI cs s) (hA : ∀ q : Nat, s.heap.size ≤ q → A q) (hR : RTv p l e ({ frames := 2, cells := 0, slots := 0, locals := 42 }) s m args below meth c cX8_token Q (dC, dI) A (fun u : Ms => (wM cs a u)) res) (M : Ms) {K0 : Ms → Option Ms} {K26 : Ms → Option Ms} (hK0 : ∀ (M : Ms) (H : Heap) (locs : List Loc) (ls : Array Slot), lv_has ls 1 [(0, .ref (a 0))] → va_P (dC, dI) vwCl (wM cs a M) H → va_D A (wM cs a M) → va_S A s.heap H locs → K0 M = some res → W p l e ({ frames := 2, cells := 0, slots := 0, locals := 42 }) s m args below meth c H locs 0 0 Q (F0 m 0 ls [])) (hK26 : ∀ (M : Ms) (H : Heap) (locs : List Loc) (ls : Array Slot), lv_has ls 1 [(0, .ref (a 0))] → va_P (dC, dI) vwCl (wM cs a M) H → va_D A (wM cs a M) → va_S A s.heap H locs → K26 M = some res → W p l e ({ frames := 2, cells := 0, slots := 0, locals := 42 }) s m args below meth c H locs 0 0 Q (F0 m 26 ls [])) (H : Heap) (locs : List Loc) (ls : Array Slot) (hl : lv_has ls 1 [(0, .ref (a 0))]) (hP : va_P (dC, dI) vwCl (wM cs a M) H) (hD : va_D A (wM cs a M)) (hS : va_S A s.heap H locs) (hf : f_X8_token_0 M K0 K26 = some res) : W p l e ({ frames := 2, cells := 0, slots := 0, locals := 42 }) s m args below meth c H locs 0 0 Q (F0 m 0 ls []) := by
  obtain ⟨hx, hb, hml, hown, hts⟩ := id C
  obtain ⟨hK, hN⟩ := id G
  unfold f_X8_token_0 at hf
  refine lv_aload_n hx hb dX8_token_0 rfl (lv_at hl 0 rfl) ?_
  refine lv_aload_n hx hb dX8_token_1 rfl (lv_at hl 0 rfl) ?_
  refine va_get (D := (dC, dI)) (ci := 8) (v := .int ((M.1 1))) (C := RX8) (T := TX8) (N := 20) hx hb hts in_X8_token_X8 hown hK hP 0 rfl rfl 10 (by decide) (hts (.fieldLink RX8 83 "BackLoansModel" "at" "I") (by decide +kernel)) (fun _ h9 => h9) rfl dX8_token_2 ?_
  obtain ⟨r5, hr5, hf⟩ := bn_e hf
  have hPc := hP.sub (ws' := (wM cs a M)) [0, 1, 2, 3, 4, 5, 6, 7, 8, 9, 10, 11] rfl
  refine vp_callSi (W.runV (As := [.int ((M.1 1))]) (rest := []) C (c_X8_byteAt l dC dI cs a M (M.1 1) r5 hr5) (cwV 1 hts gX8_token_X8_byteAt rfl rfl rfl (by decide +kernel) ⟨Nat.le_of_ble_eq_true rfl, Nat.le_of_ble_eq_true rfl⟩) ⟨(fun a U g mk q => ⟨q.1, q.2.1, GE.calling q.2.2⟩), va_recv hK hPc (ci := 8) (q0 := 0) rfl rfl, (fun U hU hW => ⟨rfl, by rw [hU]; exact hPc, GE.warm hW G⟩)⟩ rfl rfl hl.1 rfl (lv_room (Nat.le_of_ble_eq_true rfl)) dX8_token_5 ⟨Nat.le_of_ble_eq_true rfl, Nat.le_of_ble_eq_true rfl⟩) (fun qr5 hqr5 => ?_)
  obtain rfl := hqr5.symm
  refine lv_bipush (v := 32) hx hb dX8_token_8 (by decide) ?_
  refine lv_icmp_ne (tgt := 26) hx hb dX8_token_10 (by decide) (fun c1 => ?_) (fun c1 => ?_)
  · replace hf := it_f c1 hf
    exact hK26 M _ _ _ (lv_sub hl [0] rfl) hP hD hS hf
  · replace hf := it_t c1 hf
    refine lv_aload_n hx hb dX8_token_13 rfl (lv_at hl 0 rfl) ?_
    refine lv_dup hx hb dX8_token_14 rfl ?_
    refine va_get (D := (dC, dI)) (ci := 8) (v := .int ((M.1 1))) (C := RX8) (T := TX8) (N := 20) hx hb hts in_X8_token_X8 hown hK hP 0 rfl rfl 10 (by decide) (hts (.fieldLink RX8 83 "BackLoansModel" "at" "I") (by decide +kernel)) (fun _ h9 => h9) rfl dX8_token_15 ?_
    refine lv_iconst (v := 1) hx hb dX8_token_18 (by decide) ?_
    refine lv_iadd hx hb dX8_token_19 ?_
    refine va_put (D := (dC, dI)) (ci := 8) (v := .int (((M.1 1) + (1 : Int32)))) (ty := .int) (C := RX8) (T := TX8) (N := 20) hx hb hts in_X8_token_X8 tyX8 tyX8_ok nmX8 hown hK hP hD hS 0 rfl rfl 10 (by decide) (hts (.fieldLink RX8 83 "BackLoansModel" "at" "I") (by decide +kernel)) (fun _ h9 => h9) rfl (by decide +kernel) rfl rfl (Nat.le_of_ble_eq_true rfl) dX8_token_20 (fun H locs hP hD hS => ?_)
    obtain ⟨M_20, hP, hD, hf⟩ := st_nm (ws := fun M_20 : Ms => (wM cs a M_20)) ((upd M.1 1 (((M.1 1) + (1 : Int32))), M.2)) hP hD hf
    refine lv_goto (tgt := 0) hx hb dX8_token_23 (by decide) ?_
    exact hK0 M_20 _ _ _ (lv_sub hl [0] rfl) hP hD hS hf
def l_X8_token_0  (K26 : Ms → Option Ms) (n : Nat) (M : Ms) : Option Ms := itr (fun (k : Ms → Option Ms) (z : Ms) => f_X8_token_0 z (fun M => k M) K26) n M
set_option maxHeartbeats 4000000 in
set_option maxRecDepth 100000 in
theorem w_X8_token_0 {p : Program} {l : Launch} {e : Env} {s : State} {m : MethodId} {args : Array Value} {below : List Frame} {meth : Method} {c : Code} {Q : State → Prop} {dC : Nat → ClassId} {dI : Nat → Nat → Nat} {cs : Nat → ClassId} {A : Nat → Prop} {a : Nat → Nat} {res : Ms} (C : CallFix p m c cX8_token 1 s args wsX8_token RX8) (G : GE dC dI cs s) (hA : ∀ q : Nat, s.heap.size ≤ q → A q) (hR : RTv p l e ({ frames := 2, cells := 0, slots := 0, locals := 42 }) s m args below meth c cX8_token Q (dC, dI) A (fun u : Ms => (wM cs a u)) res)  {K26 : Ms → Option Ms} (hK26 : ∀ (M : Ms) (H : Heap) (locs : List Loc) (ls : Array Slot), lv_has ls 1 [(0, .ref (a 0))] → va_P (dC, dI) vwCl (wM cs a M) H → va_D A (wM cs a M) → va_S A s.heap H locs → K26 M = some res → W p l e ({ frames := 2, cells := 0, slots := 0, locals := 42 }) s m args below meth c H locs 0 0 Q (F0 m 26 ls [])) : ∀ (n : Nat) (M : Ms) (H : Heap) (locs : List Loc) (ls : Array Slot), lv_has ls 1 [(0, .ref (a 0))] → va_P (dC, dI) vwCl (wM cs a M) H → va_D A (wM cs a M) → va_S A s.heap H locs → l_X8_token_0 K26 n M = some res → W p l e ({ frames := 2, cells := 0, slots := 0, locals := 42 }) s m args below meth c H locs 0 0 Q (F0 m 0 ls []) := by
  intro n
  induction n with
  | zero => intro M H locs ls hl hP hD hS hf; exact absurd hf (by simp [l_X8_token_0, itr])
  | succ n ih => intro M H locs ls hl hP hD hS hf; exact b_X8_token_0 C G hA hR M (K0 := fun M => l_X8_token_0 K26 n M) (fun M H locs ls hl hP hD hS hf => ih M H locs ls hl hP hD hS hf) hK26 H locs ls hl hP hD hS hf
def f_X8_token_102 (M : Ms) (K54 : Ms → Option Ms) : Option Ms :=
  lett ((upd M.1 1 (((M.1 1) + (1 : Int32))), M.2)) fun M_109 =>
  lett ((upd M_109.1 3 (((M_109.1 3) + (1 : Int32))), M_109.2)) fun M_119 =>
  K54 M_119
set_option maxHeartbeats 4000000 in
set_option maxRecDepth 100000 in
theorem b_X8_token_102 {p : Program} {l : Launch} {e : Env} {s : State} {m : MethodId} {args : Array Value} {below : List Frame} {meth : Method} {c : Code} {Q : State → Prop} {dC : Nat → ClassId} {dI : Nat → Nat → Nat} {cs : Nat → ClassId} {A : Nat → Prop} {a : Nat → Nat} {res : Ms} (C : CallFix p m c cX8_token 1 s args wsX8_token RX8) (G : GE dC dI cs s) (hA : ∀ q : Nat, s.heap.size ≤ q → A q) (hR : RTv p l e ({ frames := 2, cells := 0, slots := 0, locals := 42 }) s m args below meth c cX8_token Q (dC, dI) A (fun u : Ms => (wM cs a u)) res) (M : Ms) {K54 : Ms → Option Ms} (hK54 : ∀ (M : Ms) (H : Heap) (locs : List Loc) (ls : Array Slot), lv_has ls 1 [(0, .ref (a 0))] → va_P (dC, dI) vwCl (wM cs a M) H → va_D A (wM cs a M) → va_S A s.heap H locs → K54 M = some res → W p l e ({ frames := 2, cells := 0, slots := 0, locals := 42 }) s m args below meth c H locs 0 0 Q (F0 m 54 ls [])) (H : Heap) (locs : List Loc) (ls : Array Slot) (hl : lv_has ls 1 [(0, .ref (a 0))]) (hP : va_P (dC, dI) vwCl (wM cs a M) H) (hD : va_D A (wM cs a M)) (hS : va_S A s.heap H locs) (hf : f_X8_token_102 M K54 = some res) : W p l e ({ frames := 2, cells := 0, slots := 0, locals := 42 }) s m args below meth c H locs 0 0 Q (F0 m 102 ls []) := by
  obtain ⟨hx, hb, hml, hown, hts⟩ := id C
  obtain ⟨hK, hN⟩ := id G
  unfold f_X8_token_102 at hf
  refine lv_aload_n hx hb dX8_token_102 rfl (lv_at hl 0 rfl) ?_
  refine lv_dup hx hb dX8_token_103 rfl ?_
  refine va_get (D := (dC, dI)) (ci := 8) (v := .int ((M.1 1))) (C := RX8) (T := TX8) (N := 20) hx hb hts in_X8_token_X8 hown hK hP 0 rfl rfl 10 (by decide) (hts (.fieldLink RX8 83 "BackLoansModel" "at" "I") (by decide +kernel)) (fun _ h9 => h9) rfl dX8_token_104 ?_
  refine lv_iconst (v := 1) hx hb dX8_token_107 (by decide) ?_
  refine lv_iadd hx hb dX8_token_108 ?_
  refine va_put (D := (dC, dI)) (ci := 8) (v := .int (((M.1 1) + (1 : Int32)))) (ty := .int) (C := RX8) (T := TX8) (N := 20) hx hb hts in_X8_token_X8 tyX8 tyX8_ok nmX8 hown hK hP hD hS 0 rfl rfl 10 (by decide) (hts (.fieldLink RX8 83 "BackLoansModel" "at" "I") (by decide +kernel)) (fun _ h9 => h9) rfl (by decide +kernel) rfl rfl (Nat.le_of_ble_eq_true rfl) dX8_token_109 (fun H locs hP hD hS => ?_)
  obtain ⟨M_109, hP, hD, hf⟩ := st_nm (ws := fun M_109 : Ms => (wM cs a M_109)) ((upd M.1 1 (((M.1 1) + (1 : Int32))), M.2)) hP hD hf
  refine lv_aload_n hx hb dX8_token_112 rfl (lv_at hl 0 rfl) ?_
  refine lv_dup hx hb dX8_token_113 rfl ?_
  refine va_get (D := (dC, dI)) (ci := 8) (v := .int ((M_109.1 3))) (C := RX8) (T := TX8) (N := 20) hx hb hts in_X8_token_X8 hown hK hP 0 rfl rfl 12 (by decide) (hts (.fieldLink RX8 93 "BackLoansModel" "size" "I") (by decide +kernel)) (fun _ h9 => h9) rfl dX8_token_114 ?_
  refine lv_iconst (v := 1) hx hb dX8_token_117 (by decide) ?_
  refine lv_iadd hx hb dX8_token_118 ?_
  refine va_put (D := (dC, dI)) (ci := 8) (v := .int (((M_109.1 3) + (1 : Int32)))) (ty := .int) (C := RX8) (T := TX8) (N := 20) hx hb hts in_X8_token_X8 tyX8 tyX8_ok nmX8 hown hK hP hD hS 0 rfl rfl 12 (by decide) (hts (.fieldLink RX8 93 "BackLoansModel" "size" "I") (by decide +kernel)) (fun _ h9 => h9) rfl (by decide +kernel) rfl rfl (Nat.le_of_ble_eq_true rfl) dX8_token_119 (fun H locs hP hD hS => ?_)
  obtain ⟨M_119, hP, hD, hf⟩ := st_nm (ws := fun M_119 : Ms => (wM cs a M_119)) ((upd M_109.1 3 (((M_109.1 3) + (1 : Int32))), M_109.2)) hP hD hf
  refine lv_goto (tgt := 54) hx hb dX8_token_122 (by decide) ?_
  exact hK54 M_119 _ _ _ (lv_sub hl [0] rfl) hP hD hS hf
def f_X8_token_84 (M : Ms) (K54 : Ms → Option Ms) : Option Ms :=
  bn (f_X8_byteAt (M.1 1) M) fun r89 =>
  bn (f_X8_sortOf r89) fun r92 =>
  if r92 = (M.1 4) then (
    f_X8_token_102 M K54
  ) else (
    some M
  )
set_option maxHeartbeats 4000000 in
set_option maxRecDepth 100000 in
theorem b_X8_token_84 {p : Program} {l : Launch} {e : Env} {s : State} {m : MethodId} {args : Array Value} {below : List Frame} {meth : Method} {c : Code} {Q : State → Prop} {dC : Nat → ClassId} {dI : Nat → Nat → Nat} {cs : Nat → ClassId} {A : Nat → Prop} {a : Nat → Nat} {res : Ms} (C : CallFix p m c cX8_token 1 s args wsX8_token RX8) (G : GE dC dI cs s) (hA : ∀ q : Nat, s.heap.size ≤ q → A q) (hR : RTv p l e ({ frames := 2, cells := 0, slots := 0, locals := 42 }) s m args below meth c cX8_token Q (dC, dI) A (fun u : Ms => (wM cs a u)) res) (M : Ms) {K54 : Ms → Option Ms} (hK54 : ∀ (M : Ms) (H : Heap) (locs : List Loc) (ls : Array Slot), lv_has ls 1 [(0, .ref (a 0))] → va_P (dC, dI) vwCl (wM cs a M) H → va_D A (wM cs a M) → va_S A s.heap H locs → K54 M = some res → W p l e ({ frames := 2, cells := 0, slots := 0, locals := 42 }) s m args below meth c H locs 0 0 Q (F0 m 54 ls [])) (H : Heap) (locs : List Loc) (ls : Array Slot) (hl : lv_has ls 1 [(0, .ref (a 0))]) (hP : va_P (dC, dI) vwCl (wM cs a M) H) (hD : va_D A (wM cs a M)) (hS : va_S A s.heap H locs) (hf : f_X8_token_84 M K54 = some res) : W p l e ({ frames := 2, cells := 0, slots := 0, locals := 42 }) s m args below meth c H locs 0 0 Q (F0 m 84 ls []) := by
  obtain ⟨hx, hb, hml, hown, hts⟩ := id C
  obtain ⟨hK, hN⟩ := id G
  unfold f_X8_token_84 at hf
  refine lv_aload_n hx hb dX8_token_84 rfl (lv_at hl 0 rfl) ?_
  refine lv_aload_n hx hb dX8_token_85 rfl (lv_at hl 0 rfl) ?_
  refine va_get (D := (dC, dI)) (ci := 8) (v := .int ((M.1 1))) (C := RX8) (T := TX8) (N := 20) hx hb hts in_X8_token_X8 hown hK hP 0 rfl rfl 10 (by decide) (hts (.fieldLink RX8 83 "BackLoansModel" "at" "I") (by decide +kernel)) (fun _ h9 => h9) rfl dX8_token_86 ?_
  obtain ⟨r89, hr89, hf⟩ := bn_e hf
  have hPc := hP.sub (ws' := (wM cs a M)) [0, 1, 2, 3, 4, 5, 6, 7, 8, 9, 10, 11] rfl
  refine vp_callSi (W.runV (As := [.int ((M.1 1))]) (rest := []) C (c_X8_byteAt l dC dI cs a M (M.1 1) r89 hr89) (cwV 1 hts gX8_token_X8_byteAt rfl rfl rfl (by decide +kernel) ⟨Nat.le_of_ble_eq_true rfl, Nat.le_of_ble_eq_true rfl⟩) ⟨(fun a U g mk q => ⟨q.1, q.2.1, GE.calling q.2.2⟩), va_recv hK hPc (ci := 8) (q0 := 0) rfl rfl, (fun U hU hW => ⟨rfl, by rw [hU]; exact hPc, GE.warm hW G⟩)⟩ rfl rfl hl.1 rfl (lv_room (Nat.le_of_ble_eq_true rfl)) dX8_token_89 ⟨Nat.le_of_ble_eq_true rfl, Nat.le_of_ble_eq_true rfl⟩) (fun qr89 hqr89 => ?_)
  obtain rfl := hqr89.symm
  obtain ⟨r92, hr92, hf⟩ := bn_e hf
  have hPc := hP.sub (ws' := ([] : va_W)) [] rfl
  refine vp_callSi (W.runS (As := [.int (r89)]) (rest := []) C (c_X8_sortOf l dC dI cs r89 r92 hr92) (va_cwS 1 hts gX8_token_X8_sortOf rfl rfl rfl (by decide +kernel) ⟨Nat.le_of_ble_eq_true rfl, Nat.le_of_ble_eq_true rfl⟩) ⟨(fun a U g mk q => ⟨q.1, q.2.1, GE.calling q.2.2⟩), (fun U hU hW => ⟨rfl, by rw [hU]; exact hPc, GE.warm hW G⟩)⟩ rfl rfl hl.1 rfl (lv_room (Nat.le_of_ble_eq_true rfl)) dX8_token_92 ⟨Nat.le_of_ble_eq_true rfl, Nat.le_of_ble_eq_true rfl⟩) (fun qr92 hqr92 => ?_)
  obtain rfl := hqr92.symm
  refine lv_aload_n hx hb dX8_token_95 rfl (lv_at hl 0 rfl) ?_
  refine va_get (D := (dC, dI)) (ci := 8) (v := .int ((M.1 4))) (C := RX8) (T := TX8) (N := 20) hx hb hts in_X8_token_X8 hown hK hP 0 rfl rfl 13 (by decide) (hts (.fieldLink RX8 99 "BackLoansModel" "sort" "I") (by decide +kernel)) (fun _ h9 => h9) rfl dX8_token_96 ?_
  refine lv_icmp_ne (tgt := 125) hx hb dX8_token_99 (by decide) (fun c1 => ?_) (fun c1 => ?_)
  · replace hf := it_f c1 hf
    exact hR _ _ _ _ _ dX8_token_125 hf hP hD hS
  · replace hf := it_t c1 hf
    exact b_X8_token_102 C G hA hR M hK54 _ _ _ (lv_sub hl [0] rfl) hP hD hS hf
def f_X8_token_54 (M : Ms) (K54 : Ms → Option Ms) : Option Ms :=
  if (M.1 4) = 0 then (
    some M
  ) else (
    if (M.1 3) = 0 then (
      f_X8_token_102 M K54
    ) else (
      if (M.1 4) = (1 : Int32) then (
        f_X8_token_84 M K54
      ) else (
        if (M.1 4) = (2 : Int32) then (
          f_X8_token_84 M K54
        ) else (
          some M
        )
      )
    )
  )
set_option maxHeartbeats 4000000 in
set_option maxRecDepth 100000 in
theorem b_X8_token_54 {p : Program} {l : Launch} {e : Env} {s : State} {m : MethodId} {args : Array Value} {below : List Frame} {meth : Method} {c : Code} {Q : State → Prop} {dC : Nat → ClassId} {dI : Nat → Nat → Nat} {cs : Nat → ClassId} {A : Nat → Prop} {a : Nat → Nat} {res : Ms} (C : CallFix p m c cX8_token 1 s args wsX8_token RX8) (G : GE dC dI cs s) (hA : ∀ q : Nat, s.heap.size ≤ q → A q) (hR : RTv p l e ({ frames := 2, cells := 0, slots := 0, locals := 42 }) s m args below meth c cX8_token Q (dC, dI) A (fun u : Ms => (wM cs a u)) res) (M : Ms) {K54 : Ms → Option Ms} (hK54 : ∀ (M : Ms) (H : Heap) (locs : List Loc) (ls : Array Slot), lv_has ls 1 [(0, .ref (a 0))] → va_P (dC, dI) vwCl (wM cs a M) H → va_D A (wM cs a M) → va_S A s.heap H locs → K54 M = some res → W p l e ({ frames := 2, cells := 0, slots := 0, locals := 42 }) s m args below meth c H locs 0 0 Q (F0 m 54 ls [])) (H : Heap) (locs : List Loc) (ls : Array Slot) (hl : lv_has ls 1 [(0, .ref (a 0))]) (hP : va_P (dC, dI) vwCl (wM cs a M) H) (hD : va_D A (wM cs a M)) (hS : va_S A s.heap H locs) (hf : f_X8_token_54 M K54 = some res) : W p l e ({ frames := 2, cells := 0, slots := 0, locals := 42 }) s m args below meth c H locs 0 0 Q (F0 m 54 ls []) := by
  obtain ⟨hx, hb, hml, hown, hts⟩ := id C
  obtain ⟨hK, hN⟩ := id G
  unfold f_X8_token_54 at hf
  refine lv_aload_n hx hb dX8_token_54 rfl (lv_at hl 0 rfl) ?_
  refine va_get (D := (dC, dI)) (ci := 8) (v := .int ((M.1 4))) (C := RX8) (T := TX8) (N := 20) hx hb hts in_X8_token_X8 hown hK hP 0 rfl rfl 13 (by decide) (hts (.fieldLink RX8 99 "BackLoansModel" "sort" "I") (by decide +kernel)) (fun _ h9 => h9) rfl dX8_token_55 ?_
  refine lv_if_eq (tgt := 125) hx hb dX8_token_58 (by decide) (fun c1 => ?_) (fun c1 => ?_)
  · replace hf := it_t c1 hf
    exact hR _ _ _ _ _ dX8_token_125 hf hP hD hS
  · replace hf := it_f c1 hf
    refine lv_aload_n hx hb dX8_token_61 rfl (lv_at hl 0 rfl) ?_
    refine va_get (D := (dC, dI)) (ci := 8) (v := .int ((M.1 3))) (C := RX8) (T := TX8) (N := 20) hx hb hts in_X8_token_X8 hown hK hP 0 rfl rfl 12 (by decide) (hts (.fieldLink RX8 93 "BackLoansModel" "size" "I") (by decide +kernel)) (fun _ h9 => h9) rfl dX8_token_62 ?_
    refine lv_if_eq (tgt := 102) hx hb dX8_token_65 (by decide) (fun c2 => ?_) (fun c2 => ?_)
    · replace hf := it_t c2 hf
      exact b_X8_token_102 C G hA hR M hK54 _ _ _ (lv_sub hl [0] rfl) hP hD hS hf
    · replace hf := it_f c2 hf
      refine lv_aload_n hx hb dX8_token_68 rfl (lv_at hl 0 rfl) ?_
      refine va_get (D := (dC, dI)) (ci := 8) (v := .int ((M.1 4))) (C := RX8) (T := TX8) (N := 20) hx hb hts in_X8_token_X8 hown hK hP 0 rfl rfl 13 (by decide) (hts (.fieldLink RX8 99 "BackLoansModel" "sort" "I") (by decide +kernel)) (fun _ h9 => h9) rfl dX8_token_69 ?_
      refine lv_iconst (v := 1) hx hb dX8_token_72 (by decide) ?_
      refine lv_icmp_eq (tgt := 84) hx hb dX8_token_73 (by decide) (fun c3 => ?_) (fun c3 => ?_)
      · replace hf := it_t c3 hf
        exact b_X8_token_84 C G hA hR M hK54 _ _ _ (lv_sub hl [0] rfl) hP hD hS hf
      · replace hf := it_f c3 hf
        refine lv_aload_n hx hb dX8_token_76 rfl (lv_at hl 0 rfl) ?_
        refine va_get (D := (dC, dI)) (ci := 8) (v := .int ((M.1 4))) (C := RX8) (T := TX8) (N := 20) hx hb hts in_X8_token_X8 hown hK hP 0 rfl rfl 13 (by decide) (hts (.fieldLink RX8 99 "BackLoansModel" "sort" "I") (by decide +kernel)) (fun _ h9 => h9) rfl dX8_token_77 ?_
        refine lv_iconst (v := 2) hx hb dX8_token_80 (by decide) ?_
        refine lv_icmp_ne (tgt := 125) hx hb dX8_token_81 (by decide) (fun c4 => ?_) (fun c4 => ?_)
        · replace hf := it_f c4 hf
          exact hR _ _ _ _ _ dX8_token_125 hf hP hD hS
        · replace hf := it_t c4 hf
          exact b_X8_token_84 C G hA hR M hK54 _ _ _ (lv_sub hl [0] rfl) hP hD hS hf
def l_X8_token_54   (n : Nat) (M : Ms) : Option Ms := itr (fun (k : Ms → Option Ms) (z : Ms) => f_X8_token_54 z (fun M => k M)) n M
set_option maxHeartbeats 4000000 in
set_option maxRecDepth 100000 in
theorem w_X8_token_54 {p : Program} {l : Launch} {e : Env} {s : State} {m : MethodId} {args : Array Value} {below : List Frame} {meth : Method} {c : Code} {Q : State → Prop} {dC : Nat → ClassId} {dI : Nat → Nat → Nat} {cs : Nat → ClassId} {A : Nat → Prop} {a : Nat → Nat} {res : Ms} (C : CallFix p m c cX8_token 1 s args wsX8_token RX8) (G : GE dC dI cs s) (hA : ∀ q : Nat, s.heap.size ≤ q → A q) (hR : RTv p l e ({ frames := 2, cells := 0, slots := 0, locals := 42 }) s m args below meth c cX8_token Q (dC, dI) A (fun u : Ms => (wM cs a u)) res)    : ∀ (n : Nat) (M : Ms) (H : Heap) (locs : List Loc) (ls : Array Slot), lv_has ls 1 [(0, .ref (a 0))] → va_P (dC, dI) vwCl (wM cs a M) H → va_D A (wM cs a M) → va_S A s.heap H locs → l_X8_token_54 n M = some res → W p l e ({ frames := 2, cells := 0, slots := 0, locals := 42 }) s m args below meth c H locs 0 0 Q (F0 m 54 ls []) := by
  intro n
  induction n with
  | zero => intro M H locs ls hl hP hD hS hf; exact absurd hf (by simp [l_X8_token_54, itr])
  | succ n ih => intro M H locs ls hl hP hD hS hf; exact b_X8_token_54 C G hA hR M (K54 := fun M => l_X8_token_54 n M) (fun M H locs ls hl hP hD hS hf => ih M H locs ls hl hP hD hS hf) H locs ls hl hP hD hS hf
def f_X8_token_26 (M : Ms)  : Option Ms :=
  lett ((upd M.1 2 ((M.1 1)), M.2)) fun M_31 =>
  lett ((upd M_31.1 3 ((0 : Int32)), M_31.2)) fun M_36 =>
  bn (f_X8_byteAt (M_36.1 1) M_36) fun r45 =>
  bn (f_X8_sortOf r45) fun r48 =>
  lett ((upd M_36.1 4 (r48), M_36.2)) fun M_51 =>
  l_X8_token_54 FU M_51
set_option maxHeartbeats 4000000 in
set_option maxRecDepth 100000 in
theorem b_X8_token_26 {p : Program} {l : Launch} {e : Env} {s : State} {m : MethodId} {args : Array Value} {below : List Frame} {meth : Method} {c : Code} {Q : State → Prop} {dC : Nat → ClassId} {dI : Nat → Nat → Nat} {cs : Nat → ClassId} {A : Nat → Prop} {a : Nat → Nat} {res : Ms} (C : CallFix p m c cX8_token 1 s args wsX8_token RX8) (G : GE dC dI cs s) (hA : ∀ q : Nat, s.heap.size ≤ q → A q) (hR : RTv p l e ({ frames := 2, cells := 0, slots := 0, locals := 42 }) s m args below meth c cX8_token Q (dC, dI) A (fun u : Ms => (wM cs a u)) res) (M : Ms)   (H : Heap) (locs : List Loc) (ls : Array Slot) (hl : lv_has ls 1 [(0, .ref (a 0))]) (hP : va_P (dC, dI) vwCl (wM cs a M) H) (hD : va_D A (wM cs a M)) (hS : va_S A s.heap H locs) (hf : f_X8_token_26 M = some res) : W p l e ({ frames := 2, cells := 0, slots := 0, locals := 42 }) s m args below meth c H locs 0 0 Q (F0 m 26 ls []) := by
  obtain ⟨hx, hb, hml, hown, hts⟩ := id C
  obtain ⟨hK, hN⟩ := id G
  unfold f_X8_token_26 at hf
  refine lv_aload_n hx hb dX8_token_26 rfl (lv_at hl 0 rfl) ?_
  refine lv_aload_n hx hb dX8_token_27 rfl (lv_at hl 0 rfl) ?_
  refine va_get (D := (dC, dI)) (ci := 8) (v := .int ((M.1 1))) (C := RX8) (T := TX8) (N := 20) hx hb hts in_X8_token_X8 hown hK hP 0 rfl rfl 10 (by decide) (hts (.fieldLink RX8 83 "BackLoansModel" "at" "I") (by decide +kernel)) (fun _ h9 => h9) rfl dX8_token_28 ?_
  refine va_put (D := (dC, dI)) (ci := 8) (v := .int ((M.1 1))) (ty := .int) (C := RX8) (T := TX8) (N := 20) hx hb hts in_X8_token_X8 tyX8 tyX8_ok nmX8 hown hK hP hD hS 0 rfl rfl 11 (by decide) (hts (.fieldLink RX8 90 "BackLoansModel" "start" "I") (by decide +kernel)) (fun _ h9 => h9) rfl (by decide +kernel) rfl rfl (Nat.le_of_ble_eq_true rfl) dX8_token_31 (fun H locs hP hD hS => ?_)
  obtain ⟨M_31, hP, hD, hf⟩ := st_nm (ws := fun M_31 : Ms => (wM cs a M_31)) ((upd M.1 2 ((M.1 1)), M.2)) hP hD hf
  refine lv_aload_n hx hb dX8_token_34 rfl (lv_at hl 0 rfl) ?_
  refine lv_iconst (v := 0) hx hb dX8_token_35 (by decide) ?_
  refine va_put (D := (dC, dI)) (ci := 8) (v := .int ((0 : Int32))) (ty := .int) (C := RX8) (T := TX8) (N := 20) hx hb hts in_X8_token_X8 tyX8 tyX8_ok nmX8 hown hK hP hD hS 0 rfl rfl 12 (by decide) (hts (.fieldLink RX8 93 "BackLoansModel" "size" "I") (by decide +kernel)) (fun _ h9 => h9) rfl (by decide +kernel) rfl rfl (Nat.le_of_ble_eq_true rfl) dX8_token_36 (fun H locs hP hD hS => ?_)
  obtain ⟨M_36, hP, hD, hf⟩ := st_nm (ws := fun M_36 : Ms => (wM cs a M_36)) ((upd M_31.1 3 ((0 : Int32)), M_31.2)) hP hD hf
  refine lv_aload_n hx hb dX8_token_39 rfl (lv_at hl 0 rfl) ?_
  refine lv_aload_n hx hb dX8_token_40 rfl (lv_at hl 0 rfl) ?_
  refine lv_aload_n hx hb dX8_token_41 rfl (lv_at hl 0 rfl) ?_
  refine va_get (D := (dC, dI)) (ci := 8) (v := .int ((M_36.1 1))) (C := RX8) (T := TX8) (N := 20) hx hb hts in_X8_token_X8 hown hK hP 0 rfl rfl 10 (by decide) (hts (.fieldLink RX8 83 "BackLoansModel" "at" "I") (by decide +kernel)) (fun _ h9 => h9) rfl dX8_token_42 ?_
  obtain ⟨r45, hr45, hf⟩ := bn_e hf
  have hPc := hP.sub (ws' := (wM cs a M_36)) [0, 1, 2, 3, 4, 5, 6, 7, 8, 9, 10, 11] rfl
  refine vp_callSi (W.runV (As := [.int ((M_36.1 1))]) (rest := [.ref (a 0)]) C (c_X8_byteAt l dC dI cs a M_36 (M_36.1 1) r45 hr45) (cwV 1 hts gX8_token_X8_byteAt rfl rfl rfl (by decide +kernel) ⟨Nat.le_of_ble_eq_true rfl, Nat.le_of_ble_eq_true rfl⟩) ⟨(fun a U g mk q => ⟨q.1, q.2.1, GE.calling q.2.2⟩), va_recv hK hPc (ci := 8) (q0 := 0) rfl rfl, (fun U hU hW => ⟨rfl, by rw [hU]; exact hPc, GE.warm hW G⟩)⟩ rfl rfl hl.1 rfl (lv_room (Nat.le_of_ble_eq_true rfl)) dX8_token_45 ⟨Nat.le_of_ble_eq_true rfl, Nat.le_of_ble_eq_true rfl⟩) (fun qr45 hqr45 => ?_)
  obtain rfl := hqr45.symm
  obtain ⟨r48, hr48, hf⟩ := bn_e hf
  have hPc := hP.sub (ws' := ([] : va_W)) [] rfl
  refine vp_callSi (W.runS (As := [.int (r45)]) (rest := [.ref (a 0)]) C (c_X8_sortOf l dC dI cs r45 r48 hr48) (va_cwS 1 hts gX8_token_X8_sortOf rfl rfl rfl (by decide +kernel) ⟨Nat.le_of_ble_eq_true rfl, Nat.le_of_ble_eq_true rfl⟩) ⟨(fun a U g mk q => ⟨q.1, q.2.1, GE.calling q.2.2⟩), (fun U hU hW => ⟨rfl, by rw [hU]; exact hPc, GE.warm hW G⟩)⟩ rfl rfl hl.1 rfl (lv_room (Nat.le_of_ble_eq_true rfl)) dX8_token_48 ⟨Nat.le_of_ble_eq_true rfl, Nat.le_of_ble_eq_true rfl⟩) (fun qr48 hqr48 => ?_)
  obtain rfl := hqr48.symm
  refine va_put (D := (dC, dI)) (ci := 8) (v := .int (r48)) (ty := .int) (C := RX8) (T := TX8) (N := 20) hx hb hts in_X8_token_X8 tyX8 tyX8_ok nmX8 hown hK hP hD hS 0 rfl rfl 13 (by decide) (hts (.fieldLink RX8 99 "BackLoansModel" "sort" "I") (by decide +kernel)) (fun _ h9 => h9) rfl (by decide +kernel) rfl rfl (Nat.le_of_ble_eq_true rfl) dX8_token_51 (fun H locs hP hD hS => ?_)
  obtain ⟨M_51, hP, hD, hf⟩ := st_nm (ws := fun M_51 : Ms => (wM cs a M_51)) ((upd M_36.1 4 (r48), M_36.2)) hP hD hf
  exact w_X8_token_54 C G hA hR FU M_51 _ _ _ (lv_sub hl [0] rfl) hP hD hS hf
def f_X8_token  (M : Ms) : Option Ms :=
  l_X8_token_0 (fun Mz => f_X8_token_26 Mz) FU M
set_option maxHeartbeats 4000000 in
set_option maxRecDepth 100000 in
theorem c_X8_token (l : Launch) (dC : Nat → ClassId) (dI : Nat → Nat → Nat) (cs : Nat → ClassId) (a : Nat → Nat) (sz : Nat) (M : Ms)  (res : Ms) (hf : f_X8_token M = some res) : Met l yX8_token wsX8_token ({ frames := 2, cells := 0, slots := 0, locals := 42 }) (va_Pc [.ref (a 0)] (fun U => U.heap.size = sz ∧ va_P (dC, dI) vwCl (wM cs a M) U.heap ∧ GE dC dI cs U ∧ va_D (fun _ => True) (wM cs a M))) (va_Qv (fun u : Ms => u = res) (fun u t => va_P (dC, dI) vwCl ((fun u : Ms => (wM cs a u)) u) t.heap ∧ va_D (va_A (wM cs a M) sz) ((fun u : Ms => (wM cs a u)) u)) (va_A (wM cs a M) sz)) 0 0 (va_A (wM cs a M) sz) := by
  refine Met.ofW (cc := cX8_token) (maxL := 1) (ret := none) (by decide) rfl ?_
  intro p e s m args below meth c s₁ Bd hml hv
  obtain ⟨rfl, hsz, hP, G, hD0⟩ := hv
  have hts := atoms_spec (ws := wsX8_token) Bd.pre
  have hown : s.vm.findClass RX8 = some m.cls := findClass_of_methodNamed Bd.named
  have hlocks := Bd.notSynchronized
  have hx := Bd.exec
  have hb := Bd.bytes
  have hr := Bd.returns
  have C : CallFix p m c cX8_token 1 s _ wsX8_token RX8 := ⟨hx, hb, hml, hown, hts⟩
  obtain ⟨hK, hN⟩ := id G
  subst hsz
  have hD := hD0.self (sz := s.heap.size)
  generalize hAe : va_A (wM cs a M) s.heap.size = A at hD ⊢
  have hA : ∀ q : Nat, s.heap.size ≤ q → A q := fun q h => by rw [← hAe]; exact Or.inr h
  have hS : va_S A s.heap s.heap [] := va_S.rf
  have hR : RTv p l e ({ frames := 2, cells := 0, slots := 0, locals := 42 }) s m ([.ref (a 0)] : List Value).toArray below meth c cX8_token (MQ below (va_Qv (fun u : Ms => u = res) (fun u t => va_P (dC, dI) vwCl ((fun u : Ms => (wM cs a u)) u) t.heap ∧ va_D A ((fun u : Ms => (wM cs a u)) u)) A) ([.ref (a 0)] : List Value).toArray s 0 0 A) (dC, dI) A (fun u : Ms => (wM cs a u)) res := fun H locs pc ls u dd h hP hD hS => W.vret hx hb hr (fun t ht hW => ⟨⟨u, rfl, by cases h; rfl, by rw [ht]; exact hP, hD⟩, hS.F ht⟩) hS.2.2 dd
  have hl := lv_entry ([.ref (a 0)]) (n := 1) (Nat.le_of_ble_eq_true rfl)
  rw [lg_entry_eq]
  generalize (lg_sl ([.ref (a 0)]) ++ List.replicate (1 - (lg_sl ([.ref (a 0)])).length) Slot.unset).toArray = ls at hl ⊢
  have hl : lv_has ls 1 [(0, .ref (a 0))] := hl
  unfold f_X8_token at hf
  exact w_X8_token_0 C G hA hR (fun Mz H locs ls hl hP hD hS hf => b_X8_token_26 C G hA hR Mz _ _ _ hl hP hD hS hf) FU M _ _ _ (lv_sub hl [0] rfl) hP hD hS hf

theorem in_X8_figure_X8 : ∀ w ∈ wsX80, w ∈ wsX8_figure := by decide +kernel
def f_X8_figure_9 (x1 : Int32) (x2 : Int32) (x3 : Int32) (x4 : Int32) (M : Ms) (K9 : Int32 → Int32 → Option (Int32 × Ms)) (K61 : Int32 → Option (Int32 × Ms)) : Option (Int32 × Ms) :=
  if (M.1 3) ≤ x4 then (
    K61 x3
  ) else (
    if (6 : Int32) ≤ (M.1 3) then (
      K61 x3
    ) else (
      if (M.1 4) = (2 : Int32) then (
        bn (f_X8_byteAt ((M.1 2) + x4) M) fun r47 =>
        lett ((((10 : Int32) * x3) + r47) - (48 : Int32)) fun x3_54 =>
        lett (x4 + 1) fun x4_55 =>
        K9 x3_54 x4_55
      ) else (
        K61 x3
      )
    )
  )
set_option maxHeartbeats 4000000 in
set_option maxRecDepth 100000 in
theorem b_X8_figure_9 {p : Program} {l : Launch} {e : Env} {s : State} {m : MethodId} {args : Array Value} {below : List Frame} {meth : Method} {c : Code} {Q : State → Prop} {dC : Nat → ClassId} {dI : Nat → Nat → Nat} {cs : Nat → ClassId} {A : Nat → Prop} {a : Nat → Nat} {res : Int32 × Ms} (C : CallFix p m c cX8_figure 5 s args wsX8_figure RX8) (G : GE dC dI cs s) (hA : ∀ q : Nat, s.heap.size ≤ q → A q) (hR : RTi p l e ({ frames := 3, cells := 0, slots := 0, locals := 62 }) s m args below meth c cX8_figure Q (dC, dI) A (fun u : Ms => (wM cs a u)) res) (x1 : Int32) (x2 : Int32) (x3 : Int32) (x4 : Int32) (M : Ms) {K9 : Int32 → Int32 → Option (Int32 × Ms)} {K61 : Int32 → Option (Int32 × Ms)} (hK9 : ∀ (x3 : Int32) (x4 : Int32) (H : Heap) (locs : List Loc) (ls : Array Slot), lv_has ls 5 [(0, .ref (a 0)), (1, .int (x1)), (2, .int (x2)), (3, .int (x3)), (4, .int (x4))] → va_P (dC, dI) vwCl (wM cs a M) H → va_D A (wM cs a M) → va_S A s.heap H locs → K9 x3 x4 = some res → W p l e ({ frames := 3, cells := 0, slots := 0, locals := 62 }) s m args below meth c H locs 0 0 Q (F0 m 9 ls [])) (hK61 : ∀ (x3 : Int32) (H : Heap) (locs : List Loc) (ls : Array Slot), lv_has ls 5 [(0, .ref (a 0)), (1, .int (x1)), (2, .int (x2)), (3, .int (x3))] → va_P (dC, dI) vwCl (wM cs a M) H → va_D A (wM cs a M) → va_S A s.heap H locs → K61 x3 = some res → W p l e ({ frames := 3, cells := 0, slots := 0, locals := 62 }) s m args below meth c H locs 0 0 Q (F0 m 61 ls [])) (H : Heap) (locs : List Loc) (ls : Array Slot) (hl : lv_has ls 5 [(0, .ref (a 0)), (1, .int (x1)), (2, .int (x2)), (3, .int (x3)), (4, .int (x4))]) (hP : va_P (dC, dI) vwCl (wM cs a M) H) (hD : va_D A (wM cs a M)) (hS : va_S A s.heap H locs) (hf : f_X8_figure_9 x1 x2 x3 x4 M K9 K61 = some res) : W p l e ({ frames := 3, cells := 0, slots := 0, locals := 62 }) s m args below meth c H locs 0 0 Q (F0 m 9 ls []) := by
  obtain ⟨hx, hb, hml, hown, hts⟩ := id C
  obtain ⟨hK, hN⟩ := id G
  unfold f_X8_figure_9 at hf
  refine lv_iload hx hb dX8_figure_9 (lv_at hl 4 rfl) ?_
  refine lv_aload_n hx hb dX8_figure_11 rfl (lv_at hl 0 rfl) ?_
  refine va_get (D := (dC, dI)) (ci := 8) (v := .int ((M.1 3))) (C := RX8) (T := TX8) (N := 20) hx hb hts in_X8_figure_X8 hown hK hP 0 rfl rfl 12 (by decide) (hts (.fieldLink RX8 93 "BackLoansModel" "size" "I") (by decide +kernel)) (fun _ h9 => h9) rfl dX8_figure_12 ?_
  refine lv_icmp_ge (tgt := 61) hx hb dX8_figure_15 (by decide) (fun c1 => ?_) (fun c1 => ?_)
  · replace hf := it_t c1 hf
    exact hK61 x3 _ _ _ (lv_sub hl [0, 1, 2, 3] rfl) hP hD hS hf
  · replace hf := it_f c1 hf
    refine lv_aload_n hx hb dX8_figure_18 rfl (lv_at hl 0 rfl) ?_
    refine va_get (D := (dC, dI)) (ci := 8) (v := .int ((M.1 3))) (C := RX8) (T := TX8) (N := 20) hx hb hts in_X8_figure_X8 hown hK hP 0 rfl rfl 12 (by decide) (hts (.fieldLink RX8 93 "BackLoansModel" "size" "I") (by decide +kernel)) (fun _ h9 => h9) rfl dX8_figure_19 ?_
    refine lv_bipush (v := 6) hx hb dX8_figure_22 (by decide) ?_
    refine lv_icmp_ge (tgt := 61) hx hb dX8_figure_24 (by decide) (fun c2 => ?_) (fun c2 => ?_)
    · replace hf := it_t c2 hf
      exact hK61 x3 _ _ _ (lv_sub hl [0, 1, 2, 3] rfl) hP hD hS hf
    · replace hf := it_f c2 hf
      refine lv_aload_n hx hb dX8_figure_27 rfl (lv_at hl 0 rfl) ?_
      refine va_get (D := (dC, dI)) (ci := 8) (v := .int ((M.1 4))) (C := RX8) (T := TX8) (N := 20) hx hb hts in_X8_figure_X8 hown hK hP 0 rfl rfl 13 (by decide) (hts (.fieldLink RX8 99 "BackLoansModel" "sort" "I") (by decide +kernel)) (fun _ h9 => h9) rfl dX8_figure_28 ?_
      refine lv_iconst (v := 2) hx hb dX8_figure_31 (by decide) ?_
      refine lv_icmp_ne (tgt := 61) hx hb dX8_figure_32 (by decide) (fun c3 => ?_) (fun c3 => ?_)
      · replace hf := it_f c3 hf
        exact hK61 x3 _ _ _ (lv_sub hl [0, 1, 2, 3] rfl) hP hD hS hf
      · replace hf := it_t c3 hf
        refine lv_bipush (v := 10) hx hb dX8_figure_35 (by decide) ?_
        refine lv_iload_n hx hb dX8_figure_37 rfl (lv_at hl 3 rfl) ?_
        refine lv_imul hx hb dX8_figure_38 ?_
        refine lv_aload_n hx hb dX8_figure_39 rfl (lv_at hl 0 rfl) ?_
        refine lv_aload_n hx hb dX8_figure_40 rfl (lv_at hl 0 rfl) ?_
        refine va_get (D := (dC, dI)) (ci := 8) (v := .int ((M.1 2))) (C := RX8) (T := TX8) (N := 20) hx hb hts in_X8_figure_X8 hown hK hP 0 rfl rfl 11 (by decide) (hts (.fieldLink RX8 90 "BackLoansModel" "start" "I") (by decide +kernel)) (fun _ h9 => h9) rfl dX8_figure_41 ?_
        refine lv_iload hx hb dX8_figure_44 (lv_at hl 4 rfl) ?_
        refine lv_iadd hx hb dX8_figure_46 ?_
        obtain ⟨r47, hr47, hf⟩ := bn_e hf
        have hPc := hP.sub (ws' := (wM cs a M)) [0, 1, 2, 3, 4, 5, 6, 7, 8, 9, 10, 11] rfl
        refine vp_callSi (W.runV (As := [.int (((M.1 2) + x4))]) (rest := [.int (((10 : Int32) * x3))]) C (c_X8_byteAt l dC dI cs a M ((M.1 2) + x4) r47 hr47) (cwV 1 hts gX8_figure_X8_byteAt rfl rfl rfl (by decide +kernel) ⟨Nat.le_of_ble_eq_true rfl, Nat.le_of_ble_eq_true rfl⟩) ⟨(fun a U g mk q => ⟨q.1, q.2.1, GE.calling q.2.2⟩), va_recv hK hPc (ci := 8) (q0 := 0) rfl rfl, (fun U hU hW => ⟨rfl, by rw [hU]; exact hPc, GE.warm hW G⟩)⟩ rfl rfl hl.1 rfl (lv_room (Nat.le_of_ble_eq_true rfl)) dX8_figure_47 ⟨Nat.le_of_ble_eq_true rfl, Nat.le_of_ble_eq_true rfl⟩) (fun qr47 hqr47 => ?_)
        obtain rfl := hqr47.symm
        refine lv_iadd hx hb dX8_figure_50 ?_
        refine lv_bipush (v := 48) hx hb dX8_figure_51 (by decide) ?_
        refine lv_isub hx hb dX8_figure_53 ?_
        refine lv_topi (fun x3_54 ex3_54 => ?_)
        replace hf := lett_s ex3_54 hf
        refine lv_istore_n (lv' := [(3, .int (x3_54)), (0, .ref (a 0)), (1, .int (x1)), (2, .int (x2)), (4, .int (x4))]) hx hb dX8_figure_54 rfl hl (by decide) rfl (fun ls hl => ?_)
        obtain ⟨x4_55, ex4_55⟩ : ∃ y : Int32, y = (x4 + 1) := ⟨_, rfl⟩
        replace hf := lett_s ex4_55 hf
        refine lv_iinc (v := x4_55) (lv' := [(4, .int (x4_55)), (3, .int (x3_54)), (0, .ref (a 0)), (1, .int (x1)), (2, .int (x2))]) hx hb dX8_figure_55 hl (k := 4) rfl (by rw [ex4_55]; rfl) (by decide) rfl (fun ls hl => ?_)
        refine lv_goto (tgt := 9) hx hb dX8_figure_58 (by decide) ?_
        exact hK9 x3_54 x4_55 _ _ _ (lv_sub hl [2, 3, 4, 1, 0] rfl) hP hD hS hf
def l_X8_figure_9 (x1 : Int32) (x2 : Int32) (M : Ms) (K61 : Int32 → Option (Int32 × Ms)) (n : Nat) (x3 : Int32) (x4 : Int32) : Option (Int32 × Ms) := itr (fun (k : Int32 × Int32 → Option (Int32 × Ms)) (z : Int32 × Int32) => f_X8_figure_9 x1 x2 z.1 z.2 M (fun x3 x4 => k (x3, x4)) K61) n (x3, x4)
set_option maxHeartbeats 4000000 in
set_option maxRecDepth 100000 in
theorem w_X8_figure_9 {p : Program} {l : Launch} {e : Env} {s : State} {m : MethodId} {args : Array Value} {below : List Frame} {meth : Method} {c : Code} {Q : State → Prop} {dC : Nat → ClassId} {dI : Nat → Nat → Nat} {cs : Nat → ClassId} {A : Nat → Prop} {a : Nat → Nat} {res : Int32 × Ms} (C : CallFix p m c cX8_figure 5 s args wsX8_figure RX8) (G : GE dC dI cs s) (hA : ∀ q : Nat, s.heap.size ≤ q → A q) (hR : RTi p l e ({ frames := 3, cells := 0, slots := 0, locals := 62 }) s m args below meth c cX8_figure Q (dC, dI) A (fun u : Ms => (wM cs a u)) res) (x1 : Int32) (x2 : Int32) (M : Ms) {K61 : Int32 → Option (Int32 × Ms)} (hK61 : ∀ (x3 : Int32) (H : Heap) (locs : List Loc) (ls : Array Slot), lv_has ls 5 [(0, .ref (a 0)), (1, .int (x1)), (2, .int (x2)), (3, .int (x3))] → va_P (dC, dI) vwCl (wM cs a M) H → va_D A (wM cs a M) → va_S A s.heap H locs → K61 x3 = some res → W p l e ({ frames := 3, cells := 0, slots := 0, locals := 62 }) s m args below meth c H locs 0 0 Q (F0 m 61 ls [])) : ∀ (n : Nat) (x3 : Int32) (x4 : Int32) (H : Heap) (locs : List Loc) (ls : Array Slot), lv_has ls 5 [(0, .ref (a 0)), (1, .int (x1)), (2, .int (x2)), (3, .int (x3)), (4, .int (x4))] → va_P (dC, dI) vwCl (wM cs a M) H → va_D A (wM cs a M) → va_S A s.heap H locs → l_X8_figure_9 x1 x2 M K61 n x3 x4 = some res → W p l e ({ frames := 3, cells := 0, slots := 0, locals := 62 }) s m args below meth c H locs 0 0 Q (F0 m 9 ls []) := by
  intro n
  induction n with
  | zero => intro x3 x4 H locs ls hl hP hD hS hf; exact absurd hf (by simp [l_X8_figure_9, itr])
  | succ n ih => intro x3 x4 H locs ls hl hP hD hS hf; exact b_X8_figure_9 C G hA hR x1 x2 x3 x4 M (K9 := fun x3 x4 => l_X8_figure_9 x1 x2 M K61 n x3 x4) (fun x3 x4 H locs ls hl hP hD hS hf => ih x3 x4 H locs ls hl hP hD hS hf) hK61 H locs ls hl hP hD hS hf
def f_X8_figure_61 (x1 : Int32) (x2 : Int32) (x3 : Int32) (M : Ms)  : Option (Int32 × Ms) :=
  if (M.1 4) = (2 : Int32) then (
    if (6 : Int32) ≤ (M.1 3) then (
      some ((-1 : Int32), M)
    ) else (
      bn (f_X8_in x3 x1 x2) fun r81 =>
      if r81 = 0 then (
        some ((-1 : Int32), M)
      ) else (
        some (x3, M)
      )
    )
  ) else (
    some ((-1 : Int32), M)
  )
set_option maxHeartbeats 4000000 in
set_option maxRecDepth 100000 in
theorem b_X8_figure_61 {p : Program} {l : Launch} {e : Env} {s : State} {m : MethodId} {args : Array Value} {below : List Frame} {meth : Method} {c : Code} {Q : State → Prop} {dC : Nat → ClassId} {dI : Nat → Nat → Nat} {cs : Nat → ClassId} {A : Nat → Prop} {a : Nat → Nat} {res : Int32 × Ms} (C : CallFix p m c cX8_figure 5 s args wsX8_figure RX8) (G : GE dC dI cs s) (hA : ∀ q : Nat, s.heap.size ≤ q → A q) (hR : RTi p l e ({ frames := 3, cells := 0, slots := 0, locals := 62 }) s m args below meth c cX8_figure Q (dC, dI) A (fun u : Ms => (wM cs a u)) res) (x1 : Int32) (x2 : Int32) (x3 : Int32) (M : Ms)   (H : Heap) (locs : List Loc) (ls : Array Slot) (hl : lv_has ls 5 [(0, .ref (a 0)), (1, .int (x1)), (2, .int (x2)), (3, .int (x3))]) (hP : va_P (dC, dI) vwCl (wM cs a M) H) (hD : va_D A (wM cs a M)) (hS : va_S A s.heap H locs) (hf : f_X8_figure_61 x1 x2 x3 M = some res) : W p l e ({ frames := 3, cells := 0, slots := 0, locals := 62 }) s m args below meth c H locs 0 0 Q (F0 m 61 ls []) := by
  obtain ⟨hx, hb, hml, hown, hts⟩ := id C
  obtain ⟨hK, hN⟩ := id G
  unfold f_X8_figure_61 at hf
  refine lv_aload_n hx hb dX8_figure_61 rfl (lv_at hl 0 rfl) ?_
  refine va_get (D := (dC, dI)) (ci := 8) (v := .int ((M.1 4))) (C := RX8) (T := TX8) (N := 20) hx hb hts in_X8_figure_X8 hown hK hP 0 rfl rfl 13 (by decide) (hts (.fieldLink RX8 99 "BackLoansModel" "sort" "I") (by decide +kernel)) (fun _ h9 => h9) rfl dX8_figure_62 ?_
  refine lv_iconst (v := 2) hx hb dX8_figure_65 (by decide) ?_
  refine lv_icmp_ne (tgt := 91) hx hb dX8_figure_66 (by decide) (fun c1 => ?_) (fun c1 => ?_)
  · replace hf := it_f c1 hf
    refine lv_iconst (v := -1) hx hb dX8_figure_91 (by decide) ?_
    exact hR _ _ _ _ _ _ dX8_figure_92 hf hP hD hS
  · replace hf := it_t c1 hf
    refine lv_aload_n hx hb dX8_figure_69 rfl (lv_at hl 0 rfl) ?_
    refine va_get (D := (dC, dI)) (ci := 8) (v := .int ((M.1 3))) (C := RX8) (T := TX8) (N := 20) hx hb hts in_X8_figure_X8 hown hK hP 0 rfl rfl 12 (by decide) (hts (.fieldLink RX8 93 "BackLoansModel" "size" "I") (by decide +kernel)) (fun _ h9 => h9) rfl dX8_figure_70 ?_
    refine lv_bipush (v := 6) hx hb dX8_figure_73 (by decide) ?_
    refine lv_icmp_ge (tgt := 91) hx hb dX8_figure_75 (by decide) (fun c2 => ?_) (fun c2 => ?_)
    · replace hf := it_t c2 hf
      refine lv_iconst (v := -1) hx hb dX8_figure_91 (by decide) ?_
      exact hR _ _ _ _ _ _ dX8_figure_92 hf hP hD hS
    · replace hf := it_f c2 hf
      refine lv_iload_n hx hb dX8_figure_78 rfl (lv_at hl 3 rfl) ?_
      refine lv_iload_n hx hb dX8_figure_79 rfl (lv_at hl 1 rfl) ?_
      refine lv_iload_n hx hb dX8_figure_80 rfl (lv_at hl 2 rfl) ?_
      obtain ⟨r81, hr81, hf⟩ := bn_e hf
      have hPc := hP.sub (ws' := ([] : va_W)) [] rfl
      refine vp_callSi (W.runS (As := [.int (x3), .int (x1), .int (x2)]) (rest := []) C (c_X8_in l dC dI cs x3 x1 x2 r81 hr81) (va_cwS 3 hts gX8_figure_X8_in rfl rfl rfl (by decide +kernel) ⟨Nat.le_of_ble_eq_true rfl, Nat.le_of_ble_eq_true rfl⟩) ⟨(fun a U g mk q => ⟨q.1, q.2.1, GE.calling q.2.2⟩), (fun U hU hW => ⟨rfl, by rw [hU]; exact hPc, GE.warm hW G⟩)⟩ rfl rfl hl.1 rfl (lv_room (Nat.le_of_ble_eq_true rfl)) dX8_figure_81 ⟨Nat.le_of_ble_eq_true rfl, Nat.le_of_ble_eq_true rfl⟩) (fun qr81 hqr81 => ?_)
      obtain ⟨hqr81, hnr81⟩ := hqr81
      obtain rfl := hqr81.symm
      refine lv_if_eq (tgt := 91) hx hb dX8_figure_84 (by decide) (fun c3 => ?_) (fun c3 => ?_)
      · replace hf := it_t c3 hf
        refine lv_iconst (v := -1) hx hb dX8_figure_91 (by decide) ?_
        exact hR _ _ _ _ _ _ dX8_figure_92 hf hP hD hS
      · replace hf := it_f c3 hf
        refine lv_iload_n hx hb dX8_figure_87 rfl (lv_at hl 3 rfl) ?_
        refine lv_goto (tgt := 92) hx hb dX8_figure_88 (by decide) ?_
        exact hR _ _ _ _ _ _ dX8_figure_92 hf hP hD hS
def f_X8_figure (x1 : Int32) (x2 : Int32) (M : Ms) : Option (Int32 × Ms) :=
  bn (f_X8_token M) fun r1 =>
  lett (0 : Int32) fun x3_5 =>
  lett (0 : Int32) fun x4_7 =>
  l_X8_figure_9 x1 x2 r1 (fun x3 => f_X8_figure_61 x1 x2 x3 r1) FU x3_5 x4_7
set_option maxHeartbeats 4000000 in
set_option maxRecDepth 100000 in
theorem c_X8_figure (l : Launch) (dC : Nat → ClassId) (dI : Nat → Nat → Nat) (cs : Nat → ClassId) (a : Nat → Nat) (sz : Nat) (M : Ms) (x1 : Int32) (x2 : Int32) (res : Int32 × Ms) (hf : f_X8_figure x1 x2 M = some res) : Met l yX8_figure wsX8_figure ({ frames := 3, cells := 0, slots := 0, locals := 62 }) (va_Pc [.ref (a 0), .int (x1), .int (x2)] (fun U => U.heap.size = sz ∧ va_P (dC, dI) vwCl (wM cs a M) U.heap ∧ GE dC dI cs U ∧ va_D (fun _ => True) (wM cs a M))) (va_Qi (fun r (u : Ms) => r = res.1 ∧ u = res.2) (fun u t => va_P (dC, dI) vwCl ((fun u : Ms => (wM cs a u)) u) t.heap ∧ va_D (va_A (wM cs a M) sz) ((fun u : Ms => (wM cs a u)) u)) (va_A (wM cs a M) sz)) 0 0 (va_A (wM cs a M) sz) := by
  refine Met.ofW (cc := cX8_figure) (maxL := 5) (ret := (some .int)) (by decide) rfl ?_
  intro p e s m args below meth c s₁ Bd hml hv
  obtain ⟨rfl, hsz, hP, G, hD0⟩ := hv
  have hts := atoms_spec (ws := wsX8_figure) Bd.pre
  have hown : s.vm.findClass RX8 = some m.cls := findClass_of_methodNamed Bd.named
  have hlocks := Bd.notSynchronized
  have hx := Bd.exec
  have hb := Bd.bytes
  have hr := Bd.returns
  have C : CallFix p m c cX8_figure 5 s _ wsX8_figure RX8 := ⟨hx, hb, hml, hown, hts⟩
  obtain ⟨hK, hN⟩ := id G
  subst hsz
  have hD := hD0.self (sz := s.heap.size)
  generalize hAe : va_A (wM cs a M) s.heap.size = A at hD ⊢
  have hA : ∀ q : Nat, s.heap.size ≤ q → A q := fun q h => by rw [← hAe]; exact Or.inr h
  have hS : va_S A s.heap s.heap [] := va_S.rf
  have hR : RTi p l e ({ frames := 3, cells := 0, slots := 0, locals := 62 }) s m ([.ref (a 0), .int (x1), .int (x2)] : List Value).toArray below meth c cX8_figure (MQ below (va_Qi (fun r (u : Ms) => r = res.1 ∧ u = res.2) (fun u t => va_P (dC, dI) vwCl ((fun u : Ms => (wM cs a u)) u) t.heap ∧ va_D A ((fun u : Ms => (wM cs a u)) u)) A) ([.ref (a 0), .int (x1), .int (x2)] : List Value).toArray s 0 0 A) (dC, dI) A (fun u : Ms => (wM cs a u)) res := fun H locs pc ls r u dd h hP hD hS => W.iret hx hb hr (fun t ht hW => ⟨⟨r, u, rfl, by cases h; exact ⟨rfl, rfl⟩, by rw [ht]; exact hP, hD⟩, hS.F ht⟩) hS.2.2 dd
  have hl := lv_entry ([.ref (a 0), .int (x1), .int (x2)]) (n := 5) (Nat.le_of_ble_eq_true rfl)
  rw [lg_entry_eq]
  generalize (lg_sl ([.ref (a 0), .int (x1), .int (x2)]) ++ List.replicate (5 - (lg_sl ([.ref (a 0), .int (x1), .int (x2)])).length) Slot.unset).toArray = ls at hl ⊢
  have hl : lv_has ls 5 [(0, .ref (a 0)), (1, .int (x1)), (2, .int (x2))] := hl
  unfold f_X8_figure at hf
  refine lv_aload_n hx hb dX8_figure_0 rfl (lv_at hl 0 rfl) ?_
  obtain ⟨r1, hr1, hf⟩ := bn_e hf
  have hPc := hP.sub (ws' := (wM cs a M)) [0, 1, 2, 3, 4, 5, 6, 7, 8, 9, 10, 11] rfl
  have hDc := hD.sub (ws' := (wM cs a M)) [0, 1, 2, 3, 4, 5, 6, 7, 8, 9, 10, 11] (by decide) rfl
  have hFc := va_free (wc := (wM cs a M)) hD hS hA [0, 1, 2, 3, 4, 5, 6, 7, 8, 9, 10, 11] rfl
  refine va_callv (va_runV (As := []) (rest := []) C (c_X8_token l dC dI cs a s.heap.size M r1 hr1) (cwV 0 hts gX8_figure_X8_token rfl rfl rfl (by decide +kernel) ⟨Nat.le_of_ble_eq_true rfl, Nat.le_of_ble_eq_true rfl⟩) ⟨(fun a U g mk q => ⟨q.1, q.2.1, q.2.2.1, GE.calling q.2.2.2.1, q.2.2.2.2⟩), va_recv hK hPc (ci := 8) (q0 := 0) rfl rfl, (fun U hU hW => ⟨rfl, by rw [hU], by rw [hU]; exact hPc, GE.warm hW G, hDc.weaken (fun _ _ _ _ => trivial)⟩)⟩ rfl rfl hl.1 rfl (lv_room (Nat.le_of_ble_eq_true rfl)) dX8_figure_1 ⟨Nat.le_of_ble_eq_true rfl, Nat.le_of_ble_eq_true rfl⟩) hS (fun q _ h => hFc q h) hFc (fun u t H1 locs ht hvm hw hB hz1 hk1 hS => ?_)
  obtain rfl := hw.symm
  obtain ⟨hP1, hD1⟩ := hB
  rw [ht] at hP1
  obtain ⟨hP, hD⟩ := va_join (wr := []) (w1 := (wM cs a r1)) hP hD [0, 1, 2, 3, 4, 5, 6, 7, 8, 9, 10, 11] [] rfl rfl (by decide) (by decide) hk1 hFc hP1 hD1
  generalize H1 = H at hP hS ⊢
  have hP := hP.sub (ws' := (wM cs a r1)) [0, 1, 2, 3, 4, 5, 6, 7, 8, 9, 10, 11] rfl
  have hD := hD.sub (ws' := (wM cs a r1)) [0, 1, 2, 3, 4, 5, 6, 7, 8, 9, 10, 11] (by decide) rfl
  refine lv_iconst (v := 0) hx hb dX8_figure_4 (by decide) ?_
  refine lv_topi (fun x3_5 ex3_5 => ?_)
  replace hf := lett_s ex3_5 hf
  refine lv_istore_n (lv' := [(3, .int (x3_5)), (0, .ref (a 0)), (1, .int (x1)), (2, .int (x2))]) hx hb dX8_figure_5 rfl hl (by decide) rfl (fun ls hl => ?_)
  refine lv_iconst (v := 0) hx hb dX8_figure_6 (by decide) ?_
  refine lv_topi (fun x4_7 ex4_7 => ?_)
  replace hf := lett_s ex4_7 hf
  refine lv_istore (lv' := [(4, .int (x4_7)), (3, .int (x3_5)), (0, .ref (a 0)), (1, .int (x1)), (2, .int (x2))]) hx hb dX8_figure_7 hl (by decide) rfl (fun ls hl => ?_)
  exact w_X8_figure_9 C G hA hR x1 x2 r1 (fun x3 H locs ls hl hP hD hS hf => b_X8_figure_61 C G hA hR x1 x2 x3 r1 _ _ _ hl hP hD hS hf) FU x3_5 x4_7 _ _ _ (lv_sub hl [2, 3, 4, 1, 0] rfl) hP hD hS hf

theorem in_X8_readsOne_X8 : ∀ w ∈ wsX80, w ∈ wsX8_readsOne := by decide +kernel
def f_X8_readsOne_37 (x2 : Int32) (s1 : Int32) (M : Ms)  : Option (Int32 × Ms) :=
  gi (s1) 362 <|
  lett ((M.1, M.2.1, va_up M.2.2 2 (upd (M.2.2 2) (s1).toNatClampNeg (x2)))) fun M_38 =>
  some ((1 : Int32), M_38)
set_option maxHeartbeats 4000000 in
set_option maxRecDepth 100000 in
theorem b_X8_readsOne_37 {p : Program} {l : Launch} {e : Env} {s : State} {m : MethodId} {args : Array Value} {below : List Frame} {meth : Method} {c : Code} {Q : State → Prop} {dC : Nat → ClassId} {dI : Nat → Nat → Nat} {cs : Nat → ClassId} {A : Nat → Prop} {a : Nat → Nat} {res : Int32 × Ms} (C : CallFix p m c cX8_readsOne 3 s args wsX8_readsOne RX8) (G : GE dC dI cs s) (hA : ∀ q : Nat, s.heap.size ≤ q → A q) (hR : RTz p l e ({ frames := 4, cells := 0, slots := 0, locals := 86 }) s m args below meth c cX8_readsOne Q (dC, dI) A (fun u : Ms => (wM cs a u)) res) (x2 : Int32) (s1 : Int32) (M : Ms)   (H : Heap) (locs : List Loc) (ls : Array Slot) (hl : lv_has ls 3 [(2, .int (x2))]) (hP : va_P (dC, dI) vwCl (wM cs a M) H) (hD : va_D A (wM cs a M)) (hS : va_S A s.heap H locs) (hf : f_X8_readsOne_37 x2 s1 M = some res) : W p l e ({ frames := 4, cells := 0, slots := 0, locals := 86 }) s m args below meth c H locs 0 0 Q (F0 m 37 ls [.int (s1), .ref (a 3)]) := by
  obtain ⟨hx, hb, hml, hown, hts⟩ := id C
  obtain ⟨hK, hN⟩ := id G
  unfold f_X8_readsOne_37 at hf
  refine lv_iload_n hx hb dX8_readsOne_37 rfl (lv_at hl 0 rfl) ?_
  obtain ⟨hi1, hf⟩ := gi_e hf
  refine va_iast hx hb hK hP hD hS 3 0 rfl rfl hi1 dX8_readsOne_38 (fun H locs hP hD hS => ?_)
  obtain ⟨M_38, hP, hD, hf⟩ := st_nm (ws := fun M_38 : Ms => (wM cs a M_38)) ((M.1, M.2.1, va_up M.2.2 2 (upd (M.2.2 2) (s1).toNatClampNeg (x2)))) hP hD hf
  refine lv_iconst (v := 1) hx hb dX8_readsOne_39 (by decide) ?_
  exact hR _ _ _ _ _ _ dX8_readsOne_40 (by decide) hf hP hD hS
def f_X8_readsOne_13 (x1 : Int32) (s1 : Int32) (s2 : Int32) (M : Ms)  : Option (Int32 × Ms) :=
  bn (f_X8_figure s1 s2 M) fun r13 =>
  if r13.1 = (-1 : Int32) then (
    some ((0 : Int32), r13.2)
  ) else (
    if x1 = 0 then (
      f_X8_readsOne_37 r13.1 (0 : Int32) r13.2
    ) else (
      f_X8_readsOne_37 r13.1 (1 : Int32) r13.2
    )
  )
set_option maxHeartbeats 4000000 in
set_option maxRecDepth 100000 in
theorem b_X8_readsOne_13 {p : Program} {l : Launch} {e : Env} {s : State} {m : MethodId} {args : Array Value} {below : List Frame} {meth : Method} {c : Code} {Q : State → Prop} {dC : Nat → ClassId} {dI : Nat → Nat → Nat} {cs : Nat → ClassId} {A : Nat → Prop} {a : Nat → Nat} {res : Int32 × Ms} (C : CallFix p m c cX8_readsOne 3 s args wsX8_readsOne RX8) (G : GE dC dI cs s) (hA : ∀ q : Nat, s.heap.size ≤ q → A q) (hR : RTz p l e ({ frames := 4, cells := 0, slots := 0, locals := 86 }) s m args below meth c cX8_readsOne Q (dC, dI) A (fun u : Ms => (wM cs a u)) res) (x1 : Int32) (s1 : Int32) (s2 : Int32) (M : Ms)   (H : Heap) (locs : List Loc) (ls : Array Slot) (hl : lv_has ls 3 [(0, .ref (a 0)), (1, .int (x1))]) (hP : va_P (dC, dI) vwCl (wM cs a M) H) (hD : va_D A (wM cs a M)) (hS : va_S A s.heap H locs) (hf : f_X8_readsOne_13 x1 s1 s2 M = some res) : W p l e ({ frames := 4, cells := 0, slots := 0, locals := 86 }) s m args below meth c H locs 0 0 Q (F0 m 13 ls [.int (s2), .int (s1), .ref (a 0)]) := by
  obtain ⟨hx, hb, hml, hown, hts⟩ := id C
  obtain ⟨hK, hN⟩ := id G
  unfold f_X8_readsOne_13 at hf
  obtain ⟨r13, hr13, hf⟩ := bn_e hf
  have hPc := hP.sub (ws' := (wM cs a M)) [0, 1, 2, 3, 4, 5, 6, 7, 8, 9, 10, 11] rfl
  have hDc := hD.sub (ws' := (wM cs a M)) [0, 1, 2, 3, 4, 5, 6, 7, 8, 9, 10, 11] (by decide) rfl
  have hFc := va_free (wc := (wM cs a M)) hD hS hA [0, 1, 2, 3, 4, 5, 6, 7, 8, 9, 10, 11] rfl
  refine va_calli (va_runV (As := [.int (s1), .int (s2)]) (rest := []) C (c_X8_figure l dC dI cs a H.size M s1 s2 r13 hr13) (cwV 2 hts gX8_readsOne_X8_figure rfl rfl rfl (by decide +kernel) ⟨Nat.le_of_ble_eq_true rfl, Nat.le_of_ble_eq_true rfl⟩) ⟨(fun a U g mk q => ⟨q.1, q.2.1, q.2.2.1, GE.calling q.2.2.2.1, q.2.2.2.2⟩), va_recv hK hPc (ci := 8) (q0 := 0) rfl rfl, (fun U hU hW => ⟨rfl, by rw [hU], by rw [hU]; exact hPc, GE.warm hW G, hDc.weaken (fun _ _ _ _ => trivial)⟩)⟩ rfl rfl hl.1 rfl (lv_room (Nat.le_of_ble_eq_true rfl)) dX8_readsOne_13 ⟨Nat.le_of_ble_eq_true rfl, Nat.le_of_ble_eq_true rfl⟩) hS (fun q _ h => hFc q h) hFc (fun q u t H1 locs ht hvm hw hB hz1 hk1 hS => ?_)
  obtain ⟨rfl, rfl⟩ := hw
  obtain ⟨hP1, hD1⟩ := hB
  rw [ht] at hP1
  obtain ⟨hP, hD⟩ := va_join (wr := []) (w1 := (wM cs a r13.2)) hP hD [0, 1, 2, 3, 4, 5, 6, 7, 8, 9, 10, 11] [] rfl rfl (by decide) (by decide) hk1 hFc hP1 hD1
  generalize H1 = H at hP hS ⊢
  have hP := hP.sub (ws' := (wM cs a r13.2)) [0, 1, 2, 3, 4, 5, 6, 7, 8, 9, 10, 11] rfl
  have hD := hD.sub (ws' := (wM cs a r13.2)) [0, 1, 2, 3, 4, 5, 6, 7, 8, 9, 10, 11] (by decide) rfl
  refine lv_istore_n (lv' := [(2, .int (r13.1)), (0, .ref (a 0)), (1, .int (x1))]) hx hb dX8_readsOne_16 rfl hl (by decide) rfl (fun ls hl => ?_)
  refine lv_iload_n hx hb dX8_readsOne_17 rfl (lv_at hl 0 rfl) ?_
  refine lv_iconst (v := -1) hx hb dX8_readsOne_18 (by decide) ?_
  refine lv_icmp_ne (tgt := 24) hx hb dX8_readsOne_19 (by decide) (fun c1 => ?_) (fun c1 => ?_)
  · replace hf := it_f c1 hf
    refine lv_aload_n hx hb dX8_readsOne_24 rfl (lv_at hl 1 rfl) ?_
    refine va_get (D := (dC, dI)) (ci := 8) (v := .ref (a 3)) (C := RX8) (T := TX8) (N := 20) hx hb hts in_X8_readsOne_X8 hown hK hP 0 rfl rfl 2 (by decide) (hts (.fieldLink RX8 16 "BackLoansModel" "draft" "[I") (by decide +kernel)) (fun _ h9 => h9) rfl dX8_readsOne_25 ?_
    refine lv_iload_n hx hb dX8_readsOne_28 rfl (lv_at hl 2 rfl) ?_
    refine lv_if_ne (tgt := 36) hx hb dX8_readsOne_29 (by decide) (fun c2 => ?_) (fun c2 => ?_)
    · replace hf := it_f c2 hf
      refine lv_iconst (v := 1) hx hb dX8_readsOne_36 (by decide) ?_
      exact b_X8_readsOne_37 C G hA hR r13.1 (1 : Int32) r13.2 _ _ _ (lv_sub hl [0] rfl) hP hD hS hf
    · replace hf := it_t c2 hf
      refine lv_iconst (v := 0) hx hb dX8_readsOne_32 (by decide) ?_
      refine lv_goto (tgt := 37) hx hb dX8_readsOne_33 (by decide) ?_
      exact b_X8_readsOne_37 C G hA hR r13.1 (0 : Int32) r13.2 _ _ _ (lv_sub hl [0] rfl) hP hD hS hf
  · replace hf := it_t c1 hf
    refine lv_iconst (v := 0) hx hb dX8_readsOne_22 (by decide) ?_
    exact hR _ _ _ _ _ _ dX8_readsOne_23 (by decide) hf hP hD hS
def f_X8_readsOne (x1 : Int32) (M : Ms) : Option (Int32 × Ms) :=
  if x1 = 0 then (
    f_X8_readsOne_13 x1 (0 : Int32) (99999 : Int32) M
  ) else (
    f_X8_readsOne_13 x1 (0 : Int32) (50 : Int32) M
  )
set_option maxHeartbeats 4000000 in
set_option maxRecDepth 100000 in
theorem c_X8_readsOne (l : Launch) (dC : Nat → ClassId) (dI : Nat → Nat → Nat) (cs : Nat → ClassId) (a : Nat → Nat) (sz : Nat) (M : Ms) (x1 : Int32) (res : Int32 × Ms) (hf : f_X8_readsOne x1 M = some res) : Met l yX8_readsOne wsX8_readsOne ({ frames := 4, cells := 0, slots := 0, locals := 86 }) (va_Pc [.ref (a 0), .int (x1)] (fun U => U.heap.size = sz ∧ va_P (dC, dI) vwCl (wM cs a M) U.heap ∧ GE dC dI cs U ∧ va_D (fun _ => True) (wM cs a M))) (va_Qi (fun r (u : Ms) => r = res.1 ∧ u = res.2 ∧ narrow .boolean (.int r) = .int r) (fun u t => va_P (dC, dI) vwCl ((fun u : Ms => (wM cs a u)) u) t.heap ∧ va_D (va_A (wM cs a M) sz) ((fun u : Ms => (wM cs a u)) u)) (va_A (wM cs a M) sz)) 0 0 (va_A (wM cs a M) sz) := by
  refine Met.ofW (cc := cX8_readsOne) (maxL := 3) (ret := (some .boolean)) (by decide) rfl ?_
  intro p e s m args below meth c s₁ Bd hml hv
  obtain ⟨rfl, hsz, hP, G, hD0⟩ := hv
  have hts := atoms_spec (ws := wsX8_readsOne) Bd.pre
  have hown : s.vm.findClass RX8 = some m.cls := findClass_of_methodNamed Bd.named
  have hlocks := Bd.notSynchronized
  have hx := Bd.exec
  have hb := Bd.bytes
  have hr := Bd.returns
  have C : CallFix p m c cX8_readsOne 3 s _ wsX8_readsOne RX8 := ⟨hx, hb, hml, hown, hts⟩
  obtain ⟨hK, hN⟩ := id G
  subst hsz
  have hD := hD0.self (sz := s.heap.size)
  generalize hAe : va_A (wM cs a M) s.heap.size = A at hD ⊢
  have hA : ∀ q : Nat, s.heap.size ≤ q → A q := fun q h => by rw [← hAe]; exact Or.inr h
  have hS : va_S A s.heap s.heap [] := va_S.rf
  have hR : RTz p l e ({ frames := 4, cells := 0, slots := 0, locals := 86 }) s m ([.ref (a 0), .int (x1)] : List Value).toArray below meth c cX8_readsOne (MQ below (va_Qi (fun r (u : Ms) => r = res.1 ∧ u = res.2 ∧ narrow .boolean (.int r) = .int r) (fun u t => va_P (dC, dI) vwCl ((fun u : Ms => (wM cs a u)) u) t.heap ∧ va_D A ((fun u : Ms => (wM cs a u)) u)) A) ([.ref (a 0), .int (x1)] : List Value).toArray s 0 0 A) (dC, dI) A (fun u : Ms => (wM cs a u)) res := fun H locs pc ls r u dd hn h hP hD hS => W.zret hx hb hr hn (fun t ht hW => ⟨⟨r, u, rfl, by cases h; exact ⟨rfl, rfl, hn⟩, by rw [ht]; exact hP, hD⟩, hS.F ht⟩) hS.2.2 dd
  have hl := lv_entry ([.ref (a 0), .int (x1)]) (n := 3) (Nat.le_of_ble_eq_true rfl)
  rw [lg_entry_eq]
  generalize (lg_sl ([.ref (a 0), .int (x1)]) ++ List.replicate (3 - (lg_sl ([.ref (a 0), .int (x1)])).length) Slot.unset).toArray = ls at hl ⊢
  have hl : lv_has ls 3 [(0, .ref (a 0)), (1, .int (x1))] := hl
  unfold f_X8_readsOne at hf
  refine lv_aload_n hx hb dX8_readsOne_0 rfl (lv_at hl 0 rfl) ?_
  refine lv_iconst (v := 0) hx hb dX8_readsOne_1 (by decide) ?_
  refine lv_iload_n hx hb dX8_readsOne_2 rfl (lv_at hl 1 rfl) ?_
  refine lv_if_ne (tgt := 11) hx hb dX8_readsOne_3 (by decide) (fun c1 => ?_) (fun c1 => ?_)
  · replace hf := it_f c1 hf
    refine lv_bipush (v := 50) hx hb dX8_readsOne_11 (by decide) ?_
    exact b_X8_readsOne_13 C G hA hR x1 (0 : Int32) (50 : Int32) M _ _ _ (lv_sub hl [0, 1] rfl) hP hD hS hf
  · replace hf := it_t c1 hf
    refine lv_ldc (v := 99999) hx hb hown (hts (.constant RX8 56 (99999)) (by decide +kernel)) dX8_readsOne_6 ?_
    refine lv_goto (tgt := 13) hx hb dX8_readsOne_8 (by decide) ?_
    exact b_X8_readsOne_13 C G hA hR x1 (0 : Int32) (99999 : Int32) M _ _ _ (lv_sub hl [0, 1] rfl) hP hD hS hf

theorem in_X8_readsItem_X8 : ∀ w ∈ wsX80, w ∈ wsX8_readsItem := by decide +kernel
def f_X8_readsItem_108 (x1 : Int32) (x2 : Int32) (x3 : Int32) (s0 : Int32) (M : Ms)  : Option (Int32 × Ms) :=
  if s0 = (-1 : Int32) then (
    some ((0 : Int32), M)
  ) else (
    if x1 = (2 : Int32) then (
      bn (f_X8_addPerson x2 x3 s0 (M.2.2 2)) fun r131 =>
      lett ((M.1, M.2.1, va_up M.2.2 2 (r131))) fun M_131 =>
      some ((1 : Int32), M_131)
    ) else (
      if x1 = (3 : Int32) then (
        bn (f_X8_addLoan x2 x3 s0 (M.2.2 2)) fun r150 =>
        lett ((M.1, M.2.1, va_up M.2.2 2 (r150))) fun M_150 =>
        some ((1 : Int32), M_150)
      ) else (
        bn (f_X8_addOffer x3 s0 (M.2.2 2)) fun r163 =>
        lett ((M.1, M.2.1, va_up M.2.2 2 (r163))) fun M_163 =>
        some ((1 : Int32), M_163)
      )
    )
  )
set_option maxHeartbeats 4000000 in
set_option maxRecDepth 100000 in
theorem b_X8_readsItem_108 {p : Program} {l : Launch} {e : Env} {s : State} {m : MethodId} {args : Array Value} {below : List Frame} {meth : Method} {c : Code} {Q : State → Prop} {dC : Nat → ClassId} {dI : Nat → Nat → Nat} {cs : Nat → ClassId} {A : Nat → Prop} {a : Nat → Nat} {res : Int32 × Ms} (C : CallFix p m c cX8_readsItem 5 s args wsX8_readsItem RX8) (G : GE dC dI cs s) (hA : ∀ q : Nat, s.heap.size ≤ q → A q) (hR : RTz p l e ({ frames := 5, cells := 0, slots := 0, locals := 108 }) s m args below meth c cX8_readsItem Q (dC, dI) A (fun u : Ms => (wM cs a u)) res) (x1 : Int32) (x2 : Int32) (x3 : Int32) (s0 : Int32) (M : Ms)   (H : Heap) (locs : List Loc) (ls : Array Slot) (hl : lv_has ls 5 [(0, .ref (a 0)), (1, .int (x1)), (2, .int (x2)), (3, .int (x3))]) (hP : va_P (dC, dI) vwCl (wM cs a M) H) (hD : va_D A (wM cs a M)) (hS : va_S A s.heap H locs) (hf : f_X8_readsItem_108 x1 x2 x3 s0 M = some res) : W p l e ({ frames := 5, cells := 0, slots := 0, locals := 108 }) s m args below meth c H locs 0 0 Q (F0 m 108 ls [.int (s0)]) := by
  obtain ⟨hx, hb, hml, hown, hts⟩ := id C
  obtain ⟨hK, hN⟩ := id G
  unfold f_X8_readsItem_108 at hf
  refine lv_istore (lv' := [(4, .int (s0)), (0, .ref (a 0)), (1, .int (x1)), (2, .int (x2)), (3, .int (x3))]) hx hb dX8_readsItem_108 hl (by decide) rfl (fun ls hl => ?_)
  refine lv_iload hx hb dX8_readsItem_110 (lv_at hl 0 rfl) ?_
  refine lv_iconst (v := -1) hx hb dX8_readsItem_112 (by decide) ?_
  refine lv_icmp_ne (tgt := 118) hx hb dX8_readsItem_113 (by decide) (fun c1 => ?_) (fun c1 => ?_)
  · replace hf := it_f c1 hf
    refine lv_iload_n hx hb dX8_readsItem_118 rfl (lv_at hl 2 rfl) ?_
    refine lv_iconst (v := 2) hx hb dX8_readsItem_119 (by decide) ?_
    refine lv_icmp_ne (tgt := 137) hx hb dX8_readsItem_120 (by decide) (fun c2 => ?_) (fun c2 => ?_)
    · replace hf := it_f c2 hf
      refine lv_iload_n hx hb dX8_readsItem_137 rfl (lv_at hl 2 rfl) ?_
      refine lv_iconst (v := 3) hx hb dX8_readsItem_138 (by decide) ?_
      refine lv_icmp_ne (tgt := 156) hx hb dX8_readsItem_139 (by decide) (fun c3 => ?_) (fun c3 => ?_)
      · replace hf := it_f c3 hf
        refine lv_aload_n hx hb dX8_readsItem_156 rfl (lv_at hl 1 rfl) ?_
        refine va_get (D := (dC, dI)) (ci := 8) (v := .ref (a 3)) (C := RX8) (T := TX8) (N := 20) hx hb hts in_X8_readsItem_X8 hown hK hP 0 rfl rfl 2 (by decide) (hts (.fieldLink RX8 16 "BackLoansModel" "draft" "[I") (by decide +kernel)) (fun _ h9 => h9) rfl dX8_readsItem_157 ?_
        refine lv_iload_n hx hb dX8_readsItem_160 rfl (lv_at hl 4 rfl) ?_
        refine lv_iload hx hb dX8_readsItem_161 (lv_at hl 0 rfl) ?_
        obtain ⟨r163, hr163, hf⟩ := bn_e hf
        have hPc := hP.sub (ws' := (wA cs (a 3) 362 (M.2.2 2))) [3] rfl
        have hDc := hD.sub (ws' := (wA cs (a 3) 362 (M.2.2 2))) [3] (by decide) rfl
        have hFc := va_free (wc := (wA cs (a 3) 362 (M.2.2 2))) hD hS hA [3] rfl
        refine va_callv (va_runS (As := [.ref (a 3), .int (x3), .int (s0)]) (rest := []) C (c_X8_addOffer l dC dI cs (a 3) H.size (M.2.2 2) x3 s0 r163 hr163) (va_cwS 3 hts gX8_readsItem_X8_addOffer rfl rfl rfl (by decide +kernel) ⟨Nat.le_of_ble_eq_true rfl, Nat.le_of_ble_eq_true rfl⟩) ⟨(fun a U g mk q => ⟨q.1, q.2.1, q.2.2.1, GE.calling q.2.2.2.1, q.2.2.2.2⟩), (fun U hU hW => ⟨rfl, by rw [hU], by rw [hU]; exact hPc, GE.warm hW G, hDc.weaken (fun _ _ _ _ => trivial)⟩)⟩ rfl rfl hl.1 rfl (lv_room (Nat.le_of_ble_eq_true rfl)) dX8_readsItem_163 ⟨Nat.le_of_ble_eq_true rfl, Nat.le_of_ble_eq_true rfl⟩) hS (fun q _ h => hFc q h) hFc (fun u t H1 locs ht hvm hw hB hz1 hk1 hS => ?_)
        obtain rfl := hw.symm
        obtain ⟨hP1, hD1⟩ := hB
        rw [ht] at hP1
        obtain ⟨hP, hD⟩ := va_join (wr := [0, 1, 2, 4, 5, 6, 7, 8, 9, 10, 11].filterMap (fun i => ((wM cs a M))[i]?)) (w1 := (wA cs (a 3) 362 r163)) hP hD [3] [0, 1, 2, 4, 5, 6, 7, 8, 9, 10, 11] rfl rfl (by decide) (by decide) hk1 hFc hP1 hD1
        generalize H1 = H at hP hS ⊢
        have hP := hP.sub (ws' := (wM cs a (M.1, M.2.1, va_up M.2.2 2 (r163)))) [0, 1, 2, 11, 3, 4, 5, 6, 7, 8, 9, 10] rfl
        have hD := hD.sub (ws' := (wM cs a (M.1, M.2.1, va_up M.2.2 2 (r163)))) [0, 1, 2, 11, 3, 4, 5, 6, 7, 8, 9, 10] (by decide) rfl
        obtain ⟨M_163, hP, hD, hf⟩ := st_nm (ws := fun M_163 : Ms => (wM cs a M_163)) ((M.1, M.2.1, va_up M.2.2 2 (r163))) hP hD hf
        refine lv_iconst (v := 1) hx hb dX8_readsItem_166 (by decide) ?_
        exact hR _ _ _ _ _ _ dX8_readsItem_167 (by decide) hf hP hD hS
      · replace hf := it_t c3 hf
        refine lv_aload_n hx hb dX8_readsItem_142 rfl (lv_at hl 1 rfl) ?_
        refine va_get (D := (dC, dI)) (ci := 8) (v := .ref (a 3)) (C := RX8) (T := TX8) (N := 20) hx hb hts in_X8_readsItem_X8 hown hK hP 0 rfl rfl 2 (by decide) (hts (.fieldLink RX8 16 "BackLoansModel" "draft" "[I") (by decide +kernel)) (fun _ h9 => h9) rfl dX8_readsItem_143 ?_
        refine lv_iload_n hx hb dX8_readsItem_146 rfl (lv_at hl 3 rfl) ?_
        refine lv_iload_n hx hb dX8_readsItem_147 rfl (lv_at hl 4 rfl) ?_
        refine lv_iload hx hb dX8_readsItem_148 (lv_at hl 0 rfl) ?_
        obtain ⟨r150, hr150, hf⟩ := bn_e hf
        have hPc := hP.sub (ws' := (wA cs (a 3) 362 (M.2.2 2))) [3] rfl
        have hDc := hD.sub (ws' := (wA cs (a 3) 362 (M.2.2 2))) [3] (by decide) rfl
        have hFc := va_free (wc := (wA cs (a 3) 362 (M.2.2 2))) hD hS hA [3] rfl
        refine va_callv (va_runS (As := [.ref (a 3), .int (x2), .int (x3), .int (s0)]) (rest := []) C (c_X8_addLoan l dC dI cs (a 3) H.size (M.2.2 2) x2 x3 s0 r150 hr150) (va_cwS 4 hts gX8_readsItem_X8_addLoan rfl rfl rfl (by decide +kernel) ⟨Nat.le_of_ble_eq_true rfl, Nat.le_of_ble_eq_true rfl⟩) ⟨(fun a U g mk q => ⟨q.1, q.2.1, q.2.2.1, GE.calling q.2.2.2.1, q.2.2.2.2⟩), (fun U hU hW => ⟨rfl, by rw [hU], by rw [hU]; exact hPc, GE.warm hW G, hDc.weaken (fun _ _ _ _ => trivial)⟩)⟩ rfl rfl hl.1 rfl (lv_room (Nat.le_of_ble_eq_true rfl)) dX8_readsItem_150 ⟨Nat.le_of_ble_eq_true rfl, Nat.le_of_ble_eq_true rfl⟩) hS (fun q _ h => hFc q h) hFc (fun u t H1 locs ht hvm hw hB hz1 hk1 hS => ?_)
        obtain rfl := hw.symm
        obtain ⟨hP1, hD1⟩ := hB
        rw [ht] at hP1
        obtain ⟨hP, hD⟩ := va_join (wr := [0, 1, 2, 4, 5, 6, 7, 8, 9, 10, 11].filterMap (fun i => ((wM cs a M))[i]?)) (w1 := (wA cs (a 3) 362 r150)) hP hD [3] [0, 1, 2, 4, 5, 6, 7, 8, 9, 10, 11] rfl rfl (by decide) (by decide) hk1 hFc hP1 hD1
        generalize H1 = H at hP hS ⊢
        have hP := hP.sub (ws' := (wM cs a (M.1, M.2.1, va_up M.2.2 2 (r150)))) [0, 1, 2, 11, 3, 4, 5, 6, 7, 8, 9, 10] rfl
        have hD := hD.sub (ws' := (wM cs a (M.1, M.2.1, va_up M.2.2 2 (r150)))) [0, 1, 2, 11, 3, 4, 5, 6, 7, 8, 9, 10] (by decide) rfl
        obtain ⟨M_150, hP, hD, hf⟩ := st_nm (ws := fun M_150 : Ms => (wM cs a M_150)) ((M.1, M.2.1, va_up M.2.2 2 (r150))) hP hD hf
        refine lv_goto (tgt := 166) hx hb dX8_readsItem_153 (by decide) ?_
        refine lv_iconst (v := 1) hx hb dX8_readsItem_166 (by decide) ?_
        exact hR _ _ _ _ _ _ dX8_readsItem_167 (by decide) hf hP hD hS
    · replace hf := it_t c2 hf
      refine lv_aload_n hx hb dX8_readsItem_123 rfl (lv_at hl 1 rfl) ?_
      refine va_get (D := (dC, dI)) (ci := 8) (v := .ref (a 3)) (C := RX8) (T := TX8) (N := 20) hx hb hts in_X8_readsItem_X8 hown hK hP 0 rfl rfl 2 (by decide) (hts (.fieldLink RX8 16 "BackLoansModel" "draft" "[I") (by decide +kernel)) (fun _ h9 => h9) rfl dX8_readsItem_124 ?_
      refine lv_iload_n hx hb dX8_readsItem_127 rfl (lv_at hl 3 rfl) ?_
      refine lv_iload_n hx hb dX8_readsItem_128 rfl (lv_at hl 4 rfl) ?_
      refine lv_iload hx hb dX8_readsItem_129 (lv_at hl 0 rfl) ?_
      obtain ⟨r131, hr131, hf⟩ := bn_e hf
      have hPc := hP.sub (ws' := (wA cs (a 3) 362 (M.2.2 2))) [3] rfl
      have hDc := hD.sub (ws' := (wA cs (a 3) 362 (M.2.2 2))) [3] (by decide) rfl
      have hFc := va_free (wc := (wA cs (a 3) 362 (M.2.2 2))) hD hS hA [3] rfl
      refine va_callv (va_runS (As := [.ref (a 3), .int (x2), .int (x3), .int (s0)]) (rest := []) C (c_X8_addPerson l dC dI cs (a 3) H.size (M.2.2 2) x2 x3 s0 r131 hr131) (va_cwS 4 hts gX8_readsItem_X8_addPerson rfl rfl rfl (by decide +kernel) ⟨Nat.le_of_ble_eq_true rfl, Nat.le_of_ble_eq_true rfl⟩) ⟨(fun a U g mk q => ⟨q.1, q.2.1, q.2.2.1, GE.calling q.2.2.2.1, q.2.2.2.2⟩), (fun U hU hW => ⟨rfl, by rw [hU], by rw [hU]; exact hPc, GE.warm hW G, hDc.weaken (fun _ _ _ _ => trivial)⟩)⟩ rfl rfl hl.1 rfl (lv_room (Nat.le_of_ble_eq_true rfl)) dX8_readsItem_131 ⟨Nat.le_of_ble_eq_true rfl, Nat.le_of_ble_eq_true rfl⟩) hS (fun q _ h => hFc q h) hFc (fun u t H1 locs ht hvm hw hB hz1 hk1 hS => ?_)
      obtain rfl := hw.symm
      obtain ⟨hP1, hD1⟩ := hB
      rw [ht] at hP1
      obtain ⟨hP, hD⟩ := va_join (wr := [0, 1, 2, 4, 5, 6, 7, 8, 9, 10, 11].filterMap (fun i => ((wM cs a M))[i]?)) (w1 := (wA cs (a 3) 362 r131)) hP hD [3] [0, 1, 2, 4, 5, 6, 7, 8, 9, 10, 11] rfl rfl (by decide) (by decide) hk1 hFc hP1 hD1
      generalize H1 = H at hP hS ⊢
      have hP := hP.sub (ws' := (wM cs a (M.1, M.2.1, va_up M.2.2 2 (r131)))) [0, 1, 2, 11, 3, 4, 5, 6, 7, 8, 9, 10] rfl
      have hD := hD.sub (ws' := (wM cs a (M.1, M.2.1, va_up M.2.2 2 (r131)))) [0, 1, 2, 11, 3, 4, 5, 6, 7, 8, 9, 10] (by decide) rfl
      obtain ⟨M_131, hP, hD, hf⟩ := st_nm (ws := fun M_131 : Ms => (wM cs a M_131)) ((M.1, M.2.1, va_up M.2.2 2 (r131))) hP hD hf
      refine lv_goto (tgt := 166) hx hb dX8_readsItem_134 (by decide) ?_
      refine lv_iconst (v := 1) hx hb dX8_readsItem_166 (by decide) ?_
      exact hR _ _ _ _ _ _ dX8_readsItem_167 (by decide) hf hP hD hS
  · replace hf := it_t c1 hf
    refine lv_iconst (v := 0) hx hb dX8_readsItem_116 (by decide) ?_
    exact hR _ _ _ _ _ _ dX8_readsItem_117 (by decide) hf hP hD hS
def f_X8_readsItem_77 (x1 : Int32) (x2 : Int32) (s0 : Int32) (M : Ms)  : Option (Int32 × Ms) :=
  if s0 = (-1 : Int32) then (
    some ((0 : Int32), M)
  ) else (
    if x1 = (2 : Int32) then (
      bn (f_X8_figure (0 : Int32) (9999 : Int32) M) fun r95 =>
      f_X8_readsItem_108 x1 x2 s0 r95.1 r95.2
    ) else (
      bn (f_X8_figure (1 : Int32) (12 : Int32) M) fun r105 =>
      f_X8_readsItem_108 x1 x2 s0 r105.1 r105.2
    )
  )
set_option maxHeartbeats 4000000 in
set_option maxRecDepth 100000 in
theorem b_X8_readsItem_77 {p : Program} {l : Launch} {e : Env} {s : State} {m : MethodId} {args : Array Value} {below : List Frame} {meth : Method} {c : Code} {Q : State → Prop} {dC : Nat → ClassId} {dI : Nat → Nat → Nat} {cs : Nat → ClassId} {A : Nat → Prop} {a : Nat → Nat} {res : Int32 × Ms} (C : CallFix p m c cX8_readsItem 5 s args wsX8_readsItem RX8) (G : GE dC dI cs s) (hA : ∀ q : Nat, s.heap.size ≤ q → A q) (hR : RTz p l e ({ frames := 5, cells := 0, slots := 0, locals := 108 }) s m args below meth c cX8_readsItem Q (dC, dI) A (fun u : Ms => (wM cs a u)) res) (x1 : Int32) (x2 : Int32) (s0 : Int32) (M : Ms)   (H : Heap) (locs : List Loc) (ls : Array Slot) (hl : lv_has ls 5 [(0, .ref (a 0)), (1, .int (x1)), (2, .int (x2))]) (hP : va_P (dC, dI) vwCl (wM cs a M) H) (hD : va_D A (wM cs a M)) (hS : va_S A s.heap H locs) (hf : f_X8_readsItem_77 x1 x2 s0 M = some res) : W p l e ({ frames := 5, cells := 0, slots := 0, locals := 108 }) s m args below meth c H locs 0 0 Q (F0 m 77 ls [.int (s0)]) := by
  obtain ⟨hx, hb, hml, hown, hts⟩ := id C
  obtain ⟨hK, hN⟩ := id G
  unfold f_X8_readsItem_77 at hf
  refine lv_istore_n (lv' := [(3, .int (s0)), (0, .ref (a 0)), (1, .int (x1)), (2, .int (x2))]) hx hb dX8_readsItem_77 rfl hl (by decide) rfl (fun ls hl => ?_)
  refine lv_iload_n hx hb dX8_readsItem_78 rfl (lv_at hl 0 rfl) ?_
  refine lv_iconst (v := -1) hx hb dX8_readsItem_79 (by decide) ?_
  refine lv_icmp_ne (tgt := 85) hx hb dX8_readsItem_80 (by decide) (fun c1 => ?_) (fun c1 => ?_)
  · replace hf := it_f c1 hf
    refine lv_iload_n hx hb dX8_readsItem_85 rfl (lv_at hl 2 rfl) ?_
    refine lv_iconst (v := 2) hx hb dX8_readsItem_86 (by decide) ?_
    refine lv_icmp_ne (tgt := 101) hx hb dX8_readsItem_87 (by decide) (fun c2 => ?_) (fun c2 => ?_)
    · replace hf := it_f c2 hf
      refine lv_aload_n hx hb dX8_readsItem_101 rfl (lv_at hl 1 rfl) ?_
      refine lv_iconst (v := 1) hx hb dX8_readsItem_102 (by decide) ?_
      refine lv_bipush (v := 12) hx hb dX8_readsItem_103 (by decide) ?_
      obtain ⟨r105, hr105, hf⟩ := bn_e hf
      have hPc := hP.sub (ws' := (wM cs a M)) [0, 1, 2, 3, 4, 5, 6, 7, 8, 9, 10, 11] rfl
      have hDc := hD.sub (ws' := (wM cs a M)) [0, 1, 2, 3, 4, 5, 6, 7, 8, 9, 10, 11] (by decide) rfl
      have hFc := va_free (wc := (wM cs a M)) hD hS hA [0, 1, 2, 3, 4, 5, 6, 7, 8, 9, 10, 11] rfl
      refine va_calli (va_runV (As := [.int ((1 : Int32)), .int ((12 : Int32))]) (rest := []) C (c_X8_figure l dC dI cs a H.size M (1 : Int32) (12 : Int32) r105 hr105) (cwV 2 hts gX8_readsItem_X8_figure rfl rfl rfl (by decide +kernel) ⟨Nat.le_of_ble_eq_true rfl, Nat.le_of_ble_eq_true rfl⟩) ⟨(fun a U g mk q => ⟨q.1, q.2.1, q.2.2.1, GE.calling q.2.2.2.1, q.2.2.2.2⟩), va_recv hK hPc (ci := 8) (q0 := 0) rfl rfl, (fun U hU hW => ⟨rfl, by rw [hU], by rw [hU]; exact hPc, GE.warm hW G, hDc.weaken (fun _ _ _ _ => trivial)⟩)⟩ rfl rfl hl.1 rfl (lv_room (Nat.le_of_ble_eq_true rfl)) dX8_readsItem_105 ⟨Nat.le_of_ble_eq_true rfl, Nat.le_of_ble_eq_true rfl⟩) hS (fun q _ h => hFc q h) hFc (fun q u t H1 locs ht hvm hw hB hz1 hk1 hS => ?_)
      obtain ⟨rfl, rfl⟩ := hw
      obtain ⟨hP1, hD1⟩ := hB
      rw [ht] at hP1
      obtain ⟨hP, hD⟩ := va_join (wr := []) (w1 := (wM cs a r105.2)) hP hD [0, 1, 2, 3, 4, 5, 6, 7, 8, 9, 10, 11] [] rfl rfl (by decide) (by decide) hk1 hFc hP1 hD1
      generalize H1 = H at hP hS ⊢
      have hP := hP.sub (ws' := (wM cs a r105.2)) [0, 1, 2, 3, 4, 5, 6, 7, 8, 9, 10, 11] rfl
      have hD := hD.sub (ws' := (wM cs a r105.2)) [0, 1, 2, 3, 4, 5, 6, 7, 8, 9, 10, 11] (by decide) rfl
      exact b_X8_readsItem_108 C G hA hR x1 x2 s0 r105.1 r105.2 _ _ _ (lv_sub hl [1, 2, 3, 0] rfl) hP hD hS hf
    · replace hf := it_t c2 hf
      refine lv_aload_n hx hb dX8_readsItem_90 rfl (lv_at hl 1 rfl) ?_
      refine lv_iconst (v := 0) hx hb dX8_readsItem_91 (by decide) ?_
      refine lv_sipush (v := 9999) hx hb dX8_readsItem_92 (by decide) ?_
      obtain ⟨r95, hr95, hf⟩ := bn_e hf
      have hPc := hP.sub (ws' := (wM cs a M)) [0, 1, 2, 3, 4, 5, 6, 7, 8, 9, 10, 11] rfl
      have hDc := hD.sub (ws' := (wM cs a M)) [0, 1, 2, 3, 4, 5, 6, 7, 8, 9, 10, 11] (by decide) rfl
      have hFc := va_free (wc := (wM cs a M)) hD hS hA [0, 1, 2, 3, 4, 5, 6, 7, 8, 9, 10, 11] rfl
      refine va_calli (va_runV (As := [.int ((0 : Int32)), .int ((9999 : Int32))]) (rest := []) C (c_X8_figure l dC dI cs a H.size M (0 : Int32) (9999 : Int32) r95 hr95) (cwV 2 hts gX8_readsItem_X8_figure rfl rfl rfl (by decide +kernel) ⟨Nat.le_of_ble_eq_true rfl, Nat.le_of_ble_eq_true rfl⟩) ⟨(fun a U g mk q => ⟨q.1, q.2.1, q.2.2.1, GE.calling q.2.2.2.1, q.2.2.2.2⟩), va_recv hK hPc (ci := 8) (q0 := 0) rfl rfl, (fun U hU hW => ⟨rfl, by rw [hU], by rw [hU]; exact hPc, GE.warm hW G, hDc.weaken (fun _ _ _ _ => trivial)⟩)⟩ rfl rfl hl.1 rfl (lv_room (Nat.le_of_ble_eq_true rfl)) dX8_readsItem_95 ⟨Nat.le_of_ble_eq_true rfl, Nat.le_of_ble_eq_true rfl⟩) hS (fun q _ h => hFc q h) hFc (fun q u t H1 locs ht hvm hw hB hz1 hk1 hS => ?_)
      obtain ⟨rfl, rfl⟩ := hw
      obtain ⟨hP1, hD1⟩ := hB
      rw [ht] at hP1
      obtain ⟨hP, hD⟩ := va_join (wr := []) (w1 := (wM cs a r95.2)) hP hD [0, 1, 2, 3, 4, 5, 6, 7, 8, 9, 10, 11] [] rfl rfl (by decide) (by decide) hk1 hFc hP1 hD1
      generalize H1 = H at hP hS ⊢
      have hP := hP.sub (ws' := (wM cs a r95.2)) [0, 1, 2, 3, 4, 5, 6, 7, 8, 9, 10, 11] rfl
      have hD := hD.sub (ws' := (wM cs a r95.2)) [0, 1, 2, 3, 4, 5, 6, 7, 8, 9, 10, 11] (by decide) rfl
      refine lv_goto (tgt := 108) hx hb dX8_readsItem_98 (by decide) ?_
      exact b_X8_readsItem_108 C G hA hR x1 x2 s0 r95.1 r95.2 _ _ _ (lv_sub hl [1, 2, 3, 0] rfl) hP hD hS hf
  · replace hf := it_t c1 hf
    refine lv_iconst (v := 0) hx hb dX8_readsItem_83 (by decide) ?_
    exact hR _ _ _ _ _ _ dX8_readsItem_84 (by decide) hf hP hD hS
def f_X8_readsItem_47 (x1 : Int32) (s0 : Int32) (M : Ms)  : Option (Int32 × Ms) :=
  if s0 = (-1 : Int32) then (
    some ((0 : Int32), M)
  ) else (
    if x1 = (2 : Int32) then (
      bn (f_X8_figure (0 : Int32) (99 : Int32) M) fun r64 =>
      f_X8_readsItem_77 x1 s0 r64.1 r64.2
    ) else (
      bn (f_X8_figure (1 : Int32) (99 : Int32) M) fun r74 =>
      f_X8_readsItem_77 x1 s0 r74.1 r74.2
    )
  )
set_option maxHeartbeats 4000000 in
set_option maxRecDepth 100000 in
theorem b_X8_readsItem_47 {p : Program} {l : Launch} {e : Env} {s : State} {m : MethodId} {args : Array Value} {below : List Frame} {meth : Method} {c : Code} {Q : State → Prop} {dC : Nat → ClassId} {dI : Nat → Nat → Nat} {cs : Nat → ClassId} {A : Nat → Prop} {a : Nat → Nat} {res : Int32 × Ms} (C : CallFix p m c cX8_readsItem 5 s args wsX8_readsItem RX8) (G : GE dC dI cs s) (hA : ∀ q : Nat, s.heap.size ≤ q → A q) (hR : RTz p l e ({ frames := 5, cells := 0, slots := 0, locals := 108 }) s m args below meth c cX8_readsItem Q (dC, dI) A (fun u : Ms => (wM cs a u)) res) (x1 : Int32) (s0 : Int32) (M : Ms)   (H : Heap) (locs : List Loc) (ls : Array Slot) (hl : lv_has ls 5 [(0, .ref (a 0)), (1, .int (x1))]) (hP : va_P (dC, dI) vwCl (wM cs a M) H) (hD : va_D A (wM cs a M)) (hS : va_S A s.heap H locs) (hf : f_X8_readsItem_47 x1 s0 M = some res) : W p l e ({ frames := 5, cells := 0, slots := 0, locals := 108 }) s m args below meth c H locs 0 0 Q (F0 m 47 ls [.int (s0)]) := by
  obtain ⟨hx, hb, hml, hown, hts⟩ := id C
  obtain ⟨hK, hN⟩ := id G
  unfold f_X8_readsItem_47 at hf
  refine lv_istore_n (lv' := [(2, .int (s0)), (0, .ref (a 0)), (1, .int (x1))]) hx hb dX8_readsItem_47 rfl hl (by decide) rfl (fun ls hl => ?_)
  refine lv_iload_n hx hb dX8_readsItem_48 rfl (lv_at hl 0 rfl) ?_
  refine lv_iconst (v := -1) hx hb dX8_readsItem_49 (by decide) ?_
  refine lv_icmp_ne (tgt := 55) hx hb dX8_readsItem_50 (by decide) (fun c1 => ?_) (fun c1 => ?_)
  · replace hf := it_f c1 hf
    refine lv_iload_n hx hb dX8_readsItem_55 rfl (lv_at hl 2 rfl) ?_
    refine lv_iconst (v := 2) hx hb dX8_readsItem_56 (by decide) ?_
    refine lv_icmp_ne (tgt := 70) hx hb dX8_readsItem_57 (by decide) (fun c2 => ?_) (fun c2 => ?_)
    · replace hf := it_f c2 hf
      refine lv_aload_n hx hb dX8_readsItem_70 rfl (lv_at hl 1 rfl) ?_
      refine lv_iconst (v := 1) hx hb dX8_readsItem_71 (by decide) ?_
      refine lv_bipush (v := 99) hx hb dX8_readsItem_72 (by decide) ?_
      obtain ⟨r74, hr74, hf⟩ := bn_e hf
      have hPc := hP.sub (ws' := (wM cs a M)) [0, 1, 2, 3, 4, 5, 6, 7, 8, 9, 10, 11] rfl
      have hDc := hD.sub (ws' := (wM cs a M)) [0, 1, 2, 3, 4, 5, 6, 7, 8, 9, 10, 11] (by decide) rfl
      have hFc := va_free (wc := (wM cs a M)) hD hS hA [0, 1, 2, 3, 4, 5, 6, 7, 8, 9, 10, 11] rfl
      refine va_calli (va_runV (As := [.int ((1 : Int32)), .int ((99 : Int32))]) (rest := []) C (c_X8_figure l dC dI cs a H.size M (1 : Int32) (99 : Int32) r74 hr74) (cwV 2 hts gX8_readsItem_X8_figure rfl rfl rfl (by decide +kernel) ⟨Nat.le_of_ble_eq_true rfl, Nat.le_of_ble_eq_true rfl⟩) ⟨(fun a U g mk q => ⟨q.1, q.2.1, q.2.2.1, GE.calling q.2.2.2.1, q.2.2.2.2⟩), va_recv hK hPc (ci := 8) (q0 := 0) rfl rfl, (fun U hU hW => ⟨rfl, by rw [hU], by rw [hU]; exact hPc, GE.warm hW G, hDc.weaken (fun _ _ _ _ => trivial)⟩)⟩ rfl rfl hl.1 rfl (lv_room (Nat.le_of_ble_eq_true rfl)) dX8_readsItem_74 ⟨Nat.le_of_ble_eq_true rfl, Nat.le_of_ble_eq_true rfl⟩) hS (fun q _ h => hFc q h) hFc (fun q u t H1 locs ht hvm hw hB hz1 hk1 hS => ?_)
      obtain ⟨rfl, rfl⟩ := hw
      obtain ⟨hP1, hD1⟩ := hB
      rw [ht] at hP1
      obtain ⟨hP, hD⟩ := va_join (wr := []) (w1 := (wM cs a r74.2)) hP hD [0, 1, 2, 3, 4, 5, 6, 7, 8, 9, 10, 11] [] rfl rfl (by decide) (by decide) hk1 hFc hP1 hD1
      generalize H1 = H at hP hS ⊢
      have hP := hP.sub (ws' := (wM cs a r74.2)) [0, 1, 2, 3, 4, 5, 6, 7, 8, 9, 10, 11] rfl
      have hD := hD.sub (ws' := (wM cs a r74.2)) [0, 1, 2, 3, 4, 5, 6, 7, 8, 9, 10, 11] (by decide) rfl
      exact b_X8_readsItem_77 C G hA hR x1 s0 r74.1 r74.2 _ _ _ (lv_sub hl [1, 2, 0] rfl) hP hD hS hf
    · replace hf := it_t c2 hf
      refine lv_aload_n hx hb dX8_readsItem_60 rfl (lv_at hl 1 rfl) ?_
      refine lv_iconst (v := 0) hx hb dX8_readsItem_61 (by decide) ?_
      refine lv_bipush (v := 99) hx hb dX8_readsItem_62 (by decide) ?_
      obtain ⟨r64, hr64, hf⟩ := bn_e hf
      have hPc := hP.sub (ws' := (wM cs a M)) [0, 1, 2, 3, 4, 5, 6, 7, 8, 9, 10, 11] rfl
      have hDc := hD.sub (ws' := (wM cs a M)) [0, 1, 2, 3, 4, 5, 6, 7, 8, 9, 10, 11] (by decide) rfl
      have hFc := va_free (wc := (wM cs a M)) hD hS hA [0, 1, 2, 3, 4, 5, 6, 7, 8, 9, 10, 11] rfl
      refine va_calli (va_runV (As := [.int ((0 : Int32)), .int ((99 : Int32))]) (rest := []) C (c_X8_figure l dC dI cs a H.size M (0 : Int32) (99 : Int32) r64 hr64) (cwV 2 hts gX8_readsItem_X8_figure rfl rfl rfl (by decide +kernel) ⟨Nat.le_of_ble_eq_true rfl, Nat.le_of_ble_eq_true rfl⟩) ⟨(fun a U g mk q => ⟨q.1, q.2.1, q.2.2.1, GE.calling q.2.2.2.1, q.2.2.2.2⟩), va_recv hK hPc (ci := 8) (q0 := 0) rfl rfl, (fun U hU hW => ⟨rfl, by rw [hU], by rw [hU]; exact hPc, GE.warm hW G, hDc.weaken (fun _ _ _ _ => trivial)⟩)⟩ rfl rfl hl.1 rfl (lv_room (Nat.le_of_ble_eq_true rfl)) dX8_readsItem_64 ⟨Nat.le_of_ble_eq_true rfl, Nat.le_of_ble_eq_true rfl⟩) hS (fun q _ h => hFc q h) hFc (fun q u t H1 locs ht hvm hw hB hz1 hk1 hS => ?_)
      obtain ⟨rfl, rfl⟩ := hw
      obtain ⟨hP1, hD1⟩ := hB
      rw [ht] at hP1
      obtain ⟨hP, hD⟩ := va_join (wr := []) (w1 := (wM cs a r64.2)) hP hD [0, 1, 2, 3, 4, 5, 6, 7, 8, 9, 10, 11] [] rfl rfl (by decide) (by decide) hk1 hFc hP1 hD1
      generalize H1 = H at hP hS ⊢
      have hP := hP.sub (ws' := (wM cs a r64.2)) [0, 1, 2, 3, 4, 5, 6, 7, 8, 9, 10, 11] rfl
      have hD := hD.sub (ws' := (wM cs a r64.2)) [0, 1, 2, 3, 4, 5, 6, 7, 8, 9, 10, 11] (by decide) rfl
      refine lv_goto (tgt := 77) hx hb dX8_readsItem_67 (by decide) ?_
      exact b_X8_readsItem_77 C G hA hR x1 s0 r64.1 r64.2 _ _ _ (lv_sub hl [1, 2, 0] rfl) hP hD hS hf
  · replace hf := it_t c1 hf
    refine lv_iconst (v := 0) hx hb dX8_readsItem_53 (by decide) ?_
    exact hR _ _ _ _ _ _ dX8_readsItem_54 (by decide) hf hP hD hS
def f_X8_readsItem (x1 : Int32) (M : Ms) : Option (Int32 × Ms) :=
  if (2 : Int32) ≤ x1 then (
    if x1 = (2 : Int32) then (
      bn (f_X8_figure (0 : Int32) (5 : Int32) M) fun r19 =>
      f_X8_readsItem_47 x1 r19.1 r19.2
    ) else (
      if x1 = (3 : Int32) then (
        gi ((3 : Int32)) 362 <|
        bn (f_X8_figure (0 : Int32) (((M.2.2 2) ((3 : Int32)).toNatClampNeg) - (1 : Int32)) M) fun r40 =>
        f_X8_readsItem_47 x1 r40.1 r40.2
      ) else (
        f_X8_readsItem_47 x1 (0 : Int32) M
      )
    )
  ) else (
    bn (f_X8_readsOne x1 M) fun r7 =>
    some (r7.1, r7.2)
  )
set_option maxHeartbeats 4000000 in
set_option maxRecDepth 100000 in
theorem c_X8_readsItem (l : Launch) (dC : Nat → ClassId) (dI : Nat → Nat → Nat) (cs : Nat → ClassId) (a : Nat → Nat) (sz : Nat) (M : Ms) (x1 : Int32) (res : Int32 × Ms) (hf : f_X8_readsItem x1 M = some res) : Met l yX8_readsItem wsX8_readsItem ({ frames := 5, cells := 0, slots := 0, locals := 108 }) (va_Pc [.ref (a 0), .int (x1)] (fun U => U.heap.size = sz ∧ va_P (dC, dI) vwCl (wM cs a M) U.heap ∧ GE dC dI cs U ∧ va_D (fun _ => True) (wM cs a M))) (va_Qi (fun r (u : Ms) => r = res.1 ∧ u = res.2 ∧ narrow .boolean (.int r) = .int r) (fun u t => va_P (dC, dI) vwCl ((fun u : Ms => (wM cs a u)) u) t.heap ∧ va_D (va_A (wM cs a M) sz) ((fun u : Ms => (wM cs a u)) u)) (va_A (wM cs a M) sz)) 0 0 (va_A (wM cs a M) sz) := by
  refine Met.ofW (cc := cX8_readsItem) (maxL := 5) (ret := (some .boolean)) (by decide) rfl ?_
  intro p e s m args below meth c s₁ Bd hml hv
  obtain ⟨rfl, hsz, hP, G, hD0⟩ := hv
  have hts := atoms_spec (ws := wsX8_readsItem) Bd.pre
  have hown : s.vm.findClass RX8 = some m.cls := findClass_of_methodNamed Bd.named
  have hlocks := Bd.notSynchronized
  have hx := Bd.exec
  have hb := Bd.bytes
  have hr := Bd.returns
  have C : CallFix p m c cX8_readsItem 5 s _ wsX8_readsItem RX8 := ⟨hx, hb, hml, hown, hts⟩
  obtain ⟨hK, hN⟩ := id G
  subst hsz
  have hD := hD0.self (sz := s.heap.size)
  generalize hAe : va_A (wM cs a M) s.heap.size = A at hD ⊢
  have hA : ∀ q : Nat, s.heap.size ≤ q → A q := fun q h => by rw [← hAe]; exact Or.inr h
  have hS : va_S A s.heap s.heap [] := va_S.rf
  have hR : RTz p l e ({ frames := 5, cells := 0, slots := 0, locals := 108 }) s m ([.ref (a 0), .int (x1)] : List Value).toArray below meth c cX8_readsItem (MQ below (va_Qi (fun r (u : Ms) => r = res.1 ∧ u = res.2 ∧ narrow .boolean (.int r) = .int r) (fun u t => va_P (dC, dI) vwCl ((fun u : Ms => (wM cs a u)) u) t.heap ∧ va_D A ((fun u : Ms => (wM cs a u)) u)) A) ([.ref (a 0), .int (x1)] : List Value).toArray s 0 0 A) (dC, dI) A (fun u : Ms => (wM cs a u)) res := fun H locs pc ls r u dd hn h hP hD hS => W.zret hx hb hr hn (fun t ht hW => ⟨⟨r, u, rfl, by cases h; exact ⟨rfl, rfl, hn⟩, by rw [ht]; exact hP, hD⟩, hS.F ht⟩) hS.2.2 dd
  have hl := lv_entry ([.ref (a 0), .int (x1)]) (n := 5) (Nat.le_of_ble_eq_true rfl)
  rw [lg_entry_eq]
  generalize (lg_sl ([.ref (a 0), .int (x1)]) ++ List.replicate (5 - (lg_sl ([.ref (a 0), .int (x1)])).length) Slot.unset).toArray = ls at hl ⊢
  have hl : lv_has ls 5 [(0, .ref (a 0)), (1, .int (x1))] := hl
  unfold f_X8_readsItem at hf
  refine lv_iload_n hx hb dX8_readsItem_0 rfl (lv_at hl 1 rfl) ?_
  refine lv_iconst (v := 2) hx hb dX8_readsItem_1 (by decide) ?_
  refine lv_icmp_ge (tgt := 11) hx hb dX8_readsItem_2 (by decide) (fun c1 => ?_) (fun c1 => ?_)
  · replace hf := it_t c1 hf
    refine lv_iload_n hx hb dX8_readsItem_11 rfl (lv_at hl 1 rfl) ?_
    refine lv_iconst (v := 2) hx hb dX8_readsItem_12 (by decide) ?_
    refine lv_icmp_ne (tgt := 25) hx hb dX8_readsItem_13 (by decide) (fun c2 => ?_) (fun c2 => ?_)
    · replace hf := it_f c2 hf
      refine lv_iload_n hx hb dX8_readsItem_25 rfl (lv_at hl 1 rfl) ?_
      refine lv_iconst (v := 3) hx hb dX8_readsItem_26 (by decide) ?_
      refine lv_icmp_ne (tgt := 46) hx hb dX8_readsItem_27 (by decide) (fun c3 => ?_) (fun c3 => ?_)
      · replace hf := it_f c3 hf
        refine lv_iconst (v := 0) hx hb dX8_readsItem_46 (by decide) ?_
        exact b_X8_readsItem_47 C G hA hR x1 (0 : Int32) M _ _ _ (lv_sub hl [0, 1] rfl) hP hD hS hf
      · replace hf := it_t c3 hf
        refine lv_aload_n hx hb dX8_readsItem_30 rfl (lv_at hl 0 rfl) ?_
        refine lv_iconst (v := 0) hx hb dX8_readsItem_31 (by decide) ?_
        refine lv_aload_n hx hb dX8_readsItem_32 rfl (lv_at hl 0 rfl) ?_
        refine va_get (D := (dC, dI)) (ci := 8) (v := .ref (a 3)) (C := RX8) (T := TX8) (N := 20) hx hb hts in_X8_readsItem_X8 hown hK hP 0 rfl rfl 2 (by decide) (hts (.fieldLink RX8 16 "BackLoansModel" "draft" "[I") (by decide +kernel)) (fun _ h9 => h9) rfl dX8_readsItem_33 ?_
        refine lv_iconst (v := 3) hx hb dX8_readsItem_36 (by decide) ?_
        obtain ⟨hi4, hf⟩ := gi_e hf
        refine va_iald hx hb hK hP 3 0 rfl rfl hi4 dX8_readsItem_37 ?_
        refine lv_iconst (v := 1) hx hb dX8_readsItem_38 (by decide) ?_
        refine lv_isub hx hb dX8_readsItem_39 ?_
        obtain ⟨r40, hr40, hf⟩ := bn_e hf
        have hPc := hP.sub (ws' := (wM cs a M)) [0, 1, 2, 3, 4, 5, 6, 7, 8, 9, 10, 11] rfl
        have hDc := hD.sub (ws' := (wM cs a M)) [0, 1, 2, 3, 4, 5, 6, 7, 8, 9, 10, 11] (by decide) rfl
        have hFc := va_free (wc := (wM cs a M)) hD hS hA [0, 1, 2, 3, 4, 5, 6, 7, 8, 9, 10, 11] rfl
        refine va_calli (va_runV (As := [.int ((0 : Int32)), .int ((((M.2.2 2) ((3 : Int32)).toNatClampNeg) - (1 : Int32)))]) (rest := []) C (c_X8_figure l dC dI cs a s.heap.size M (0 : Int32) (((M.2.2 2) ((3 : Int32)).toNatClampNeg) - (1 : Int32)) r40 hr40) (cwV 2 hts gX8_readsItem_X8_figure rfl rfl rfl (by decide +kernel) ⟨Nat.le_of_ble_eq_true rfl, Nat.le_of_ble_eq_true rfl⟩) ⟨(fun a U g mk q => ⟨q.1, q.2.1, q.2.2.1, GE.calling q.2.2.2.1, q.2.2.2.2⟩), va_recv hK hPc (ci := 8) (q0 := 0) rfl rfl, (fun U hU hW => ⟨rfl, by rw [hU], by rw [hU]; exact hPc, GE.warm hW G, hDc.weaken (fun _ _ _ _ => trivial)⟩)⟩ rfl rfl hl.1 rfl (lv_room (Nat.le_of_ble_eq_true rfl)) dX8_readsItem_40 ⟨Nat.le_of_ble_eq_true rfl, Nat.le_of_ble_eq_true rfl⟩) hS (fun q _ h => hFc q h) hFc (fun q u t H1 locs ht hvm hw hB hz1 hk1 hS => ?_)
        obtain ⟨rfl, rfl⟩ := hw
        obtain ⟨hP1, hD1⟩ := hB
        rw [ht] at hP1
        obtain ⟨hP, hD⟩ := va_join (wr := []) (w1 := (wM cs a r40.2)) hP hD [0, 1, 2, 3, 4, 5, 6, 7, 8, 9, 10, 11] [] rfl rfl (by decide) (by decide) hk1 hFc hP1 hD1
        generalize H1 = H at hP hS ⊢
        have hP := hP.sub (ws' := (wM cs a r40.2)) [0, 1, 2, 3, 4, 5, 6, 7, 8, 9, 10, 11] rfl
        have hD := hD.sub (ws' := (wM cs a r40.2)) [0, 1, 2, 3, 4, 5, 6, 7, 8, 9, 10, 11] (by decide) rfl
        refine lv_goto (tgt := 47) hx hb dX8_readsItem_43 (by decide) ?_
        exact b_X8_readsItem_47 C G hA hR x1 r40.1 r40.2 _ _ _ (lv_sub hl [0, 1] rfl) hP hD hS hf
    · replace hf := it_t c2 hf
      refine lv_aload_n hx hb dX8_readsItem_16 rfl (lv_at hl 0 rfl) ?_
      refine lv_iconst (v := 0) hx hb dX8_readsItem_17 (by decide) ?_
      refine lv_iconst (v := 5) hx hb dX8_readsItem_18 (by decide) ?_
      obtain ⟨r19, hr19, hf⟩ := bn_e hf
      have hPc := hP.sub (ws' := (wM cs a M)) [0, 1, 2, 3, 4, 5, 6, 7, 8, 9, 10, 11] rfl
      have hDc := hD.sub (ws' := (wM cs a M)) [0, 1, 2, 3, 4, 5, 6, 7, 8, 9, 10, 11] (by decide) rfl
      have hFc := va_free (wc := (wM cs a M)) hD hS hA [0, 1, 2, 3, 4, 5, 6, 7, 8, 9, 10, 11] rfl
      refine va_calli (va_runV (As := [.int ((0 : Int32)), .int ((5 : Int32))]) (rest := []) C (c_X8_figure l dC dI cs a s.heap.size M (0 : Int32) (5 : Int32) r19 hr19) (cwV 2 hts gX8_readsItem_X8_figure rfl rfl rfl (by decide +kernel) ⟨Nat.le_of_ble_eq_true rfl, Nat.le_of_ble_eq_true rfl⟩) ⟨(fun a U g mk q => ⟨q.1, q.2.1, q.2.2.1, GE.calling q.2.2.2.1, q.2.2.2.2⟩), va_recv hK hPc (ci := 8) (q0 := 0) rfl rfl, (fun U hU hW => ⟨rfl, by rw [hU], by rw [hU]; exact hPc, GE.warm hW G, hDc.weaken (fun _ _ _ _ => trivial)⟩)⟩ rfl rfl hl.1 rfl (lv_room (Nat.le_of_ble_eq_true rfl)) dX8_readsItem_19 ⟨Nat.le_of_ble_eq_true rfl, Nat.le_of_ble_eq_true rfl⟩) hS (fun q _ h => hFc q h) hFc (fun q u t H1 locs ht hvm hw hB hz1 hk1 hS => ?_)
      obtain ⟨rfl, rfl⟩ := hw
      obtain ⟨hP1, hD1⟩ := hB
      rw [ht] at hP1
      obtain ⟨hP, hD⟩ := va_join (wr := []) (w1 := (wM cs a r19.2)) hP hD [0, 1, 2, 3, 4, 5, 6, 7, 8, 9, 10, 11] [] rfl rfl (by decide) (by decide) hk1 hFc hP1 hD1
      generalize H1 = H at hP hS ⊢
      have hP := hP.sub (ws' := (wM cs a r19.2)) [0, 1, 2, 3, 4, 5, 6, 7, 8, 9, 10, 11] rfl
      have hD := hD.sub (ws' := (wM cs a r19.2)) [0, 1, 2, 3, 4, 5, 6, 7, 8, 9, 10, 11] (by decide) rfl
      refine lv_goto (tgt := 47) hx hb dX8_readsItem_22 (by decide) ?_
      exact b_X8_readsItem_47 C G hA hR x1 r19.1 r19.2 _ _ _ (lv_sub hl [0, 1] rfl) hP hD hS hf
  · replace hf := it_f c1 hf
    refine lv_aload_n hx hb dX8_readsItem_5 rfl (lv_at hl 0 rfl) ?_
    refine lv_iload_n hx hb dX8_readsItem_6 rfl (lv_at hl 1 rfl) ?_
    obtain ⟨r7, hr7, hf⟩ := bn_e hf
    have hPc := hP.sub (ws' := (wM cs a M)) [0, 1, 2, 3, 4, 5, 6, 7, 8, 9, 10, 11] rfl
    have hDc := hD.sub (ws' := (wM cs a M)) [0, 1, 2, 3, 4, 5, 6, 7, 8, 9, 10, 11] (by decide) rfl
    have hFc := va_free (wc := (wM cs a M)) hD hS hA [0, 1, 2, 3, 4, 5, 6, 7, 8, 9, 10, 11] rfl
    refine va_calli (va_runV (As := [.int (x1)]) (rest := []) C (c_X8_readsOne l dC dI cs a s.heap.size M x1 r7 hr7) (cwV 1 hts gX8_readsItem_X8_readsOne rfl rfl rfl (by decide +kernel) ⟨Nat.le_of_ble_eq_true rfl, Nat.le_of_ble_eq_true rfl⟩) ⟨(fun a U g mk q => ⟨q.1, q.2.1, q.2.2.1, GE.calling q.2.2.2.1, q.2.2.2.2⟩), va_recv hK hPc (ci := 8) (q0 := 0) rfl rfl, (fun U hU hW => ⟨rfl, by rw [hU], by rw [hU]; exact hPc, GE.warm hW G, hDc.weaken (fun _ _ _ _ => trivial)⟩)⟩ rfl rfl hl.1 rfl (lv_room (Nat.le_of_ble_eq_true rfl)) dX8_readsItem_7 ⟨Nat.le_of_ble_eq_true rfl, Nat.le_of_ble_eq_true rfl⟩) hS (fun q _ h => hFc q h) hFc (fun q u t H1 locs ht hvm hw hB hz1 hk1 hS => ?_)
    obtain ⟨rfl, rfl, hnr7⟩ := hw
    obtain ⟨hP1, hD1⟩ := hB
    rw [ht] at hP1
    obtain ⟨hP, hD⟩ := va_join (wr := []) (w1 := (wM cs a r7.2)) hP hD [0, 1, 2, 3, 4, 5, 6, 7, 8, 9, 10, 11] [] rfl rfl (by decide) (by decide) hk1 hFc hP1 hD1
    generalize H1 = H at hP hS ⊢
    have hP := hP.sub (ws' := (wM cs a r7.2)) [0, 1, 2, 3, 4, 5, 6, 7, 8, 9, 10, 11] rfl
    have hD := hD.sub (ws' := (wM cs a r7.2)) [0, 1, 2, 3, 4, 5, 6, 7, 8, 9, 10, 11] (by decide) rfl
    exact hR _ _ _ _ _ _ dX8_readsItem_10 hnr7 hf hP hD hS

theorem in_X8_reads_X8 : ∀ w ∈ wsX80, w ∈ wsX8_reads := by decide +kernel
def f_X8_reads_2 (x1 : Int32) (M : Ms) (K2 : Int32 → Ms → Option (Int32 × Ms)) (K22 : Ms → Option (Int32 × Ms)) : Option (Int32 × Ms) :=
  if (362 : Int32) ≤ x1 then (
    K22 M
  ) else (
    gi (x1) 362 <|
    lett ((M.1, M.2.1, va_up M.2.2 2 (upd (M.2.2 2) (x1).toNatClampNeg ((0 : Int32))))) fun M_15 =>
    lett (x1 + 1) fun x1_16 =>
    K2 x1_16 M_15
  )
set_option maxHeartbeats 4000000 in
set_option maxRecDepth 100000 in
theorem b_X8_reads_2 {p : Program} {l : Launch} {e : Env} {s : State} {m : MethodId} {args : Array Value} {below : List Frame} {meth : Method} {c : Code} {Q : State → Prop} {dC : Nat → ClassId} {dI : Nat → Nat → Nat} {cs : Nat → ClassId} {A : Nat → Prop} {a : Nat → Nat} {res : Int32 × Ms} (C : CallFix p m c cX8_reads 3 s args wsX8_reads RX8) (G : GE dC dI cs s) (hA : ∀ q : Nat, s.heap.size ≤ q → A q) (hR : RTi p l e ({ frames := 6, cells := 0, slots := 0, locals := 132 }) s m args below meth c cX8_reads Q (dC, dI) A (fun u : Ms => (wM cs a u)) res) (x1 : Int32) (M : Ms) {K2 : Int32 → Ms → Option (Int32 × Ms)} {K22 : Ms → Option (Int32 × Ms)} (hK2 : ∀ (x1 : Int32) (M : Ms) (H : Heap) (locs : List Loc) (ls : Array Slot), lv_has ls 3 [(0, .ref (a 0)), (1, .int (x1))] → va_P (dC, dI) vwCl (wM cs a M) H → va_D A (wM cs a M) → va_S A s.heap H locs → K2 x1 M = some res → W p l e ({ frames := 6, cells := 0, slots := 0, locals := 132 }) s m args below meth c H locs 0 0 Q (F0 m 2 ls [])) (hK22 : ∀ (M : Ms) (H : Heap) (locs : List Loc) (ls : Array Slot), lv_has ls 3 [(0, .ref (a 0))] → va_P (dC, dI) vwCl (wM cs a M) H → va_D A (wM cs a M) → va_S A s.heap H locs → K22 M = some res → W p l e ({ frames := 6, cells := 0, slots := 0, locals := 132 }) s m args below meth c H locs 0 0 Q (F0 m 22 ls [])) (H : Heap) (locs : List Loc) (ls : Array Slot) (hl : lv_has ls 3 [(0, .ref (a 0)), (1, .int (x1))]) (hP : va_P (dC, dI) vwCl (wM cs a M) H) (hD : va_D A (wM cs a M)) (hS : va_S A s.heap H locs) (hf : f_X8_reads_2 x1 M K2 K22 = some res) : W p l e ({ frames := 6, cells := 0, slots := 0, locals := 132 }) s m args below meth c H locs 0 0 Q (F0 m 2 ls []) := by
  obtain ⟨hx, hb, hml, hown, hts⟩ := id C
  obtain ⟨hK, hN⟩ := id G
  unfold f_X8_reads_2 at hf
  refine lv_iload_n hx hb dX8_reads_2 rfl (lv_at hl 1 rfl) ?_
  refine lv_sipush (v := 362) hx hb dX8_reads_3 (by decide) ?_
  refine lv_icmp_ge (tgt := 22) hx hb dX8_reads_6 (by decide) (fun c1 => ?_) (fun c1 => ?_)
  · replace hf := it_t c1 hf
    exact hK22 M _ _ _ (lv_sub hl [0] rfl) hP hD hS hf
  · replace hf := it_f c1 hf
    refine lv_aload_n hx hb dX8_reads_9 rfl (lv_at hl 0 rfl) ?_
    refine va_get (D := (dC, dI)) (ci := 8) (v := .ref (a 3)) (C := RX8) (T := TX8) (N := 20) hx hb hts in_X8_reads_X8 hown hK hP 0 rfl rfl 2 (by decide) (hts (.fieldLink RX8 16 "BackLoansModel" "draft" "[I") (by decide +kernel)) (fun _ h9 => h9) rfl dX8_reads_10 ?_
    refine lv_iload_n hx hb dX8_reads_13 rfl (lv_at hl 1 rfl) ?_
    refine lv_iconst (v := 0) hx hb dX8_reads_14 (by decide) ?_
    obtain ⟨hi2, hf⟩ := gi_e hf
    refine va_iast hx hb hK hP hD hS 3 0 rfl rfl hi2 dX8_reads_15 (fun H locs hP hD hS => ?_)
    obtain ⟨M_15, hP, hD, hf⟩ := st_nm (ws := fun M_15 : Ms => (wM cs a M_15)) ((M.1, M.2.1, va_up M.2.2 2 (upd (M.2.2 2) (x1).toNatClampNeg ((0 : Int32))))) hP hD hf
    obtain ⟨x1_16, ex1_16⟩ : ∃ y : Int32, y = (x1 + 1) := ⟨_, rfl⟩
    replace hf := lett_s ex1_16 hf
    refine lv_iinc (v := x1_16) (lv' := [(1, .int (x1_16)), (0, .ref (a 0))]) hx hb dX8_reads_16 hl (k := 1) rfl (by rw [ex1_16]; rfl) (by decide) rfl (fun ls hl => ?_)
    refine lv_goto (tgt := 2) hx hb dX8_reads_19 (by decide) ?_
    exact hK2 x1_16 M_15 _ _ _ (lv_sub hl [1, 0] rfl) hP hD hS hf
def l_X8_reads_2  (K22 : Ms → Option (Int32 × Ms)) (n : Nat) (x1 : Int32) (M : Ms) : Option (Int32 × Ms) := itr (fun (k : Int32 × Ms → Option (Int32 × Ms)) (z : Int32 × Ms) => f_X8_reads_2 z.1 z.2 (fun x1 M => k (x1, M)) K22) n (x1, M)
set_option maxHeartbeats 4000000 in
set_option maxRecDepth 100000 in
theorem w_X8_reads_2 {p : Program} {l : Launch} {e : Env} {s : State} {m : MethodId} {args : Array Value} {below : List Frame} {meth : Method} {c : Code} {Q : State → Prop} {dC : Nat → ClassId} {dI : Nat → Nat → Nat} {cs : Nat → ClassId} {A : Nat → Prop} {a : Nat → Nat} {res : Int32 × Ms} (C : CallFix p m c cX8_reads 3 s args wsX8_reads RX8) (G : GE dC dI cs s) (hA : ∀ q : Nat, s.heap.size ≤ q → A q) (hR : RTi p l e ({ frames := 6, cells := 0, slots := 0, locals := 132 }) s m args below meth c cX8_reads Q (dC, dI) A (fun u : Ms => (wM cs a u)) res)  {K22 : Ms → Option (Int32 × Ms)} (hK22 : ∀ (M : Ms) (H : Heap) (locs : List Loc) (ls : Array Slot), lv_has ls 3 [(0, .ref (a 0))] → va_P (dC, dI) vwCl (wM cs a M) H → va_D A (wM cs a M) → va_S A s.heap H locs → K22 M = some res → W p l e ({ frames := 6, cells := 0, slots := 0, locals := 132 }) s m args below meth c H locs 0 0 Q (F0 m 22 ls [])) : ∀ (n : Nat) (x1 : Int32) (M : Ms) (H : Heap) (locs : List Loc) (ls : Array Slot), lv_has ls 3 [(0, .ref (a 0)), (1, .int (x1))] → va_P (dC, dI) vwCl (wM cs a M) H → va_D A (wM cs a M) → va_S A s.heap H locs → l_X8_reads_2 K22 n x1 M = some res → W p l e ({ frames := 6, cells := 0, slots := 0, locals := 132 }) s m args below meth c H locs 0 0 Q (F0 m 2 ls []) := by
  intro n
  induction n with
  | zero => intro x1 M H locs ls hl hP hD hS hf; exact absurd hf (by simp [l_X8_reads_2, itr])
  | succ n ih => intro x1 M H locs ls hl hP hD hS hf; exact b_X8_reads_2 C G hA hR x1 M (K2 := fun x1 M => l_X8_reads_2 K22 n x1 M) (fun x1 M H locs ls hl hP hD hS hf => ih x1 M H locs ls hl hP hD hS hf) hK22 H locs ls hl hP hD hS hf
def f_X8_reads_44 (x1 : Int32) (M : Ms) (K33 : Int32 → Ms → Option (Int32 × Ms)) : Option (Int32 × Ms) :=
  bn (f_X8_item M) fun r45 =>
  bn (f_X8_mayBegin r45 x1 M) fun r52 =>
  if r52 = 0 then (
    some ((-1 : Int32), M)
  ) else (
    bn (f_X8_readsItem r45 M) fun r60 =>
    if r60.1 = 0 then (
      some ((-1 : Int32), r60.2)
    ) else (
      bn (f_X8_token r60.2) fun r69 =>
      if (r69.1 4) = (3 : Int32) then (
        lett (x1 + 1) fun x1_82 =>
        bn (f_X8_token r69) fun r86 =>
        K33 x1_82 r86
      ) else (
        some ((-1 : Int32), r69)
      )
    )
  )
set_option maxHeartbeats 4000000 in
set_option maxRecDepth 100000 in
theorem b_X8_reads_44 {p : Program} {l : Launch} {e : Env} {s : State} {m : MethodId} {args : Array Value} {below : List Frame} {meth : Method} {c : Code} {Q : State → Prop} {dC : Nat → ClassId} {dI : Nat → Nat → Nat} {cs : Nat → ClassId} {A : Nat → Prop} {a : Nat → Nat} {res : Int32 × Ms} (C : CallFix p m c cX8_reads 3 s args wsX8_reads RX8) (G : GE dC dI cs s) (hA : ∀ q : Nat, s.heap.size ≤ q → A q) (hR : RTi p l e ({ frames := 6, cells := 0, slots := 0, locals := 132 }) s m args below meth c cX8_reads Q (dC, dI) A (fun u : Ms => (wM cs a u)) res) (x1 : Int32) (M : Ms) {K33 : Int32 → Ms → Option (Int32 × Ms)} (hK33 : ∀ (x1 : Int32) (M : Ms) (H : Heap) (locs : List Loc) (ls : Array Slot), lv_has ls 3 [(0, .ref (a 0)), (1, .int (x1))] → va_P (dC, dI) vwCl (wM cs a M) H → va_D A (wM cs a M) → va_S A s.heap H locs → K33 x1 M = some res → W p l e ({ frames := 6, cells := 0, slots := 0, locals := 132 }) s m args below meth c H locs 0 0 Q (F0 m 33 ls [])) (H : Heap) (locs : List Loc) (ls : Array Slot) (hl : lv_has ls 3 [(0, .ref (a 0)), (1, .int (x1))]) (hP : va_P (dC, dI) vwCl (wM cs a M) H) (hD : va_D A (wM cs a M)) (hS : va_S A s.heap H locs) (hf : f_X8_reads_44 x1 M K33 = some res) : W p l e ({ frames := 6, cells := 0, slots := 0, locals := 132 }) s m args below meth c H locs 0 0 Q (F0 m 44 ls []) := by
  obtain ⟨hx, hb, hml, hown, hts⟩ := id C
  obtain ⟨hK, hN⟩ := id G
  unfold f_X8_reads_44 at hf
  refine lv_aload_n hx hb dX8_reads_44 rfl (lv_at hl 0 rfl) ?_
  obtain ⟨r45, hr45, hf⟩ := bn_e hf
  have hPc := hP.sub (ws' := (wM cs a M)) [0, 1, 2, 3, 4, 5, 6, 7, 8, 9, 10, 11] rfl
  refine vp_callSi (W.runV (As := []) (rest := []) C (c_X8_item l dC dI cs a M r45 hr45) (cwV 0 hts gX8_reads_X8_item rfl rfl rfl (by decide +kernel) ⟨Nat.le_of_ble_eq_true rfl, Nat.le_of_ble_eq_true rfl⟩) ⟨(fun a U g mk q => ⟨q.1, q.2.1, GE.calling q.2.2⟩), va_recv hK hPc (ci := 8) (q0 := 0) rfl rfl, (fun U hU hW => ⟨rfl, by rw [hU]; exact hPc, GE.warm hW G⟩)⟩ rfl rfl hl.1 rfl (lv_room (Nat.le_of_ble_eq_true rfl)) dX8_reads_45 ⟨Nat.le_of_ble_eq_true rfl, Nat.le_of_ble_eq_true rfl⟩) (fun qr45 hqr45 => ?_)
  obtain rfl := hqr45.symm
  refine lv_istore_n (lv' := [(2, .int (r45)), (0, .ref (a 0)), (1, .int (x1))]) hx hb dX8_reads_48 rfl hl (by decide) rfl (fun ls hl => ?_)
  refine lv_aload_n hx hb dX8_reads_49 rfl (lv_at hl 1 rfl) ?_
  refine lv_iload_n hx hb dX8_reads_50 rfl (lv_at hl 0 rfl) ?_
  refine lv_iload_n hx hb dX8_reads_51 rfl (lv_at hl 2 rfl) ?_
  obtain ⟨r52, hr52, hf⟩ := bn_e hf
  have hPc := hP.sub (ws' := (wM cs a M)) [0, 1, 2, 3, 4, 5, 6, 7, 8, 9, 10, 11] rfl
  refine vp_callSi (W.runV (As := [.int (r45), .int (x1)]) (rest := []) C (c_X8_mayBegin l dC dI cs a M r45 x1 r52 hr52) (cwV 2 hts gX8_reads_X8_mayBegin rfl rfl rfl (by decide +kernel) ⟨Nat.le_of_ble_eq_true rfl, Nat.le_of_ble_eq_true rfl⟩) ⟨(fun a U g mk q => ⟨q.1, q.2.1, GE.calling q.2.2⟩), va_recv hK hPc (ci := 8) (q0 := 0) rfl rfl, (fun U hU hW => ⟨rfl, by rw [hU]; exact hPc, GE.warm hW G⟩)⟩ rfl rfl hl.1 rfl (lv_room (Nat.le_of_ble_eq_true rfl)) dX8_reads_52 ⟨Nat.le_of_ble_eq_true rfl, Nat.le_of_ble_eq_true rfl⟩) (fun qr52 hqr52 => ?_)
  obtain ⟨hqr52, hnr52⟩ := hqr52
  obtain rfl := hqr52.symm
  refine lv_if_eq (tgt := 66) hx hb dX8_reads_55 (by decide) (fun c1 => ?_) (fun c1 => ?_)
  · replace hf := it_t c1 hf
    refine lv_iconst (v := -1) hx hb dX8_reads_66 (by decide) ?_
    exact hR _ _ _ _ _ _ dX8_reads_67 hf hP hD hS
  · replace hf := it_f c1 hf
    refine lv_aload_n hx hb dX8_reads_58 rfl (lv_at hl 1 rfl) ?_
    refine lv_iload_n hx hb dX8_reads_59 rfl (lv_at hl 0 rfl) ?_
    obtain ⟨r60, hr60, hf⟩ := bn_e hf
    have hPc := hP.sub (ws' := (wM cs a M)) [0, 1, 2, 3, 4, 5, 6, 7, 8, 9, 10, 11] rfl
    have hDc := hD.sub (ws' := (wM cs a M)) [0, 1, 2, 3, 4, 5, 6, 7, 8, 9, 10, 11] (by decide) rfl
    have hFc := va_free (wc := (wM cs a M)) hD hS hA [0, 1, 2, 3, 4, 5, 6, 7, 8, 9, 10, 11] rfl
    refine va_calli (va_runV (As := [.int (r45)]) (rest := []) C (c_X8_readsItem l dC dI cs a H.size M r45 r60 hr60) (cwV 1 hts gX8_reads_X8_readsItem rfl rfl rfl (by decide +kernel) ⟨Nat.le_of_ble_eq_true rfl, Nat.le_of_ble_eq_true rfl⟩) ⟨(fun a U g mk q => ⟨q.1, q.2.1, q.2.2.1, GE.calling q.2.2.2.1, q.2.2.2.2⟩), va_recv hK hPc (ci := 8) (q0 := 0) rfl rfl, (fun U hU hW => ⟨rfl, by rw [hU], by rw [hU]; exact hPc, GE.warm hW G, hDc.weaken (fun _ _ _ _ => trivial)⟩)⟩ rfl rfl hl.1 rfl (lv_room (Nat.le_of_ble_eq_true rfl)) dX8_reads_60 ⟨Nat.le_of_ble_eq_true rfl, Nat.le_of_ble_eq_true rfl⟩) hS (fun q _ h => hFc q h) hFc (fun q u t H1 locs ht hvm hw hB hz1 hk1 hS => ?_)
    obtain ⟨rfl, rfl, hnr60⟩ := hw
    obtain ⟨hP1, hD1⟩ := hB
    rw [ht] at hP1
    obtain ⟨hP, hD⟩ := va_join (wr := []) (w1 := (wM cs a r60.2)) hP hD [0, 1, 2, 3, 4, 5, 6, 7, 8, 9, 10, 11] [] rfl rfl (by decide) (by decide) hk1 hFc hP1 hD1
    generalize H1 = H at hP hS ⊢
    have hP := hP.sub (ws' := (wM cs a r60.2)) [0, 1, 2, 3, 4, 5, 6, 7, 8, 9, 10, 11] rfl
    have hD := hD.sub (ws' := (wM cs a r60.2)) [0, 1, 2, 3, 4, 5, 6, 7, 8, 9, 10, 11] (by decide) rfl
    refine lv_if_ne (tgt := 68) hx hb dX8_reads_63 (by decide) (fun c2 => ?_) (fun c2 => ?_)
    · replace hf := it_f c2 hf
      refine lv_aload_n hx hb dX8_reads_68 rfl (lv_at hl 1 rfl) ?_
      obtain ⟨r69, hr69, hf⟩ := bn_e hf
      have hPc := hP.sub (ws' := (wM cs a r60.2)) [0, 1, 2, 3, 4, 5, 6, 7, 8, 9, 10, 11] rfl
      have hDc := hD.sub (ws' := (wM cs a r60.2)) [0, 1, 2, 3, 4, 5, 6, 7, 8, 9, 10, 11] (by decide) rfl
      have hFc := va_free (wc := (wM cs a r60.2)) hD hS hA [0, 1, 2, 3, 4, 5, 6, 7, 8, 9, 10, 11] rfl
      refine va_callv (va_runV (As := []) (rest := []) C (c_X8_token l dC dI cs a H.size r60.2 r69 hr69) (cwV 0 hts gX8_reads_X8_token rfl rfl rfl (by decide +kernel) ⟨Nat.le_of_ble_eq_true rfl, Nat.le_of_ble_eq_true rfl⟩) ⟨(fun a U g mk q => ⟨q.1, q.2.1, q.2.2.1, GE.calling q.2.2.2.1, q.2.2.2.2⟩), va_recv hK hPc (ci := 8) (q0 := 0) rfl rfl, (fun U hU hW => ⟨rfl, by rw [hU], by rw [hU]; exact hPc, GE.warm hW G, hDc.weaken (fun _ _ _ _ => trivial)⟩)⟩ rfl rfl hl.1 rfl (lv_room (Nat.le_of_ble_eq_true rfl)) dX8_reads_69 ⟨Nat.le_of_ble_eq_true rfl, Nat.le_of_ble_eq_true rfl⟩) hS (fun q _ h => hFc q h) hFc (fun u t H1 locs ht hvm hw hB hz1 hk1 hS => ?_)
      obtain rfl := hw.symm
      obtain ⟨hP1, hD1⟩ := hB
      rw [ht] at hP1
      obtain ⟨hP, hD⟩ := va_join (wr := []) (w1 := (wM cs a r69)) hP hD [0, 1, 2, 3, 4, 5, 6, 7, 8, 9, 10, 11] [] rfl rfl (by decide) (by decide) hk1 hFc hP1 hD1
      generalize H1 = H at hP hS ⊢
      have hP := hP.sub (ws' := (wM cs a r69)) [0, 1, 2, 3, 4, 5, 6, 7, 8, 9, 10, 11] rfl
      have hD := hD.sub (ws' := (wM cs a r69)) [0, 1, 2, 3, 4, 5, 6, 7, 8, 9, 10, 11] (by decide) rfl
      refine lv_aload_n hx hb dX8_reads_72 rfl (lv_at hl 1 rfl) ?_
      refine va_get (D := (dC, dI)) (ci := 8) (v := .int ((r69.1 4))) (C := RX8) (T := TX8) (N := 20) hx hb hts in_X8_reads_X8 hown hK hP 0 rfl rfl 13 (by decide) (hts (.fieldLink RX8 99 "BackLoansModel" "sort" "I") (by decide +kernel)) (fun _ h9 => h9) rfl dX8_reads_73 ?_
      refine lv_iconst (v := 3) hx hb dX8_reads_76 (by decide) ?_
      refine lv_icmp_eq (tgt := 82) hx hb dX8_reads_77 (by decide) (fun c3 => ?_) (fun c3 => ?_)
      · replace hf := it_t c3 hf
        obtain ⟨x1_82, ex1_82⟩ : ∃ y : Int32, y = (x1 + 1) := ⟨_, rfl⟩
        replace hf := lett_s ex1_82 hf
        refine lv_iinc (v := x1_82) (lv' := [(1, .int (x1_82)), (2, .int (r45)), (0, .ref (a 0))]) hx hb dX8_reads_82 hl (k := 2) rfl (by rw [ex1_82]; rfl) (by decide) rfl (fun ls hl => ?_)
        refine lv_aload_n hx hb dX8_reads_85 rfl (lv_at hl 2 rfl) ?_
        obtain ⟨r86, hr86, hf⟩ := bn_e hf
        have hPc := hP.sub (ws' := (wM cs a r69)) [0, 1, 2, 3, 4, 5, 6, 7, 8, 9, 10, 11] rfl
        have hDc := hD.sub (ws' := (wM cs a r69)) [0, 1, 2, 3, 4, 5, 6, 7, 8, 9, 10, 11] (by decide) rfl
        have hFc := va_free (wc := (wM cs a r69)) hD hS hA [0, 1, 2, 3, 4, 5, 6, 7, 8, 9, 10, 11] rfl
        refine va_callv (va_runV (As := []) (rest := []) C (c_X8_token l dC dI cs a H.size r69 r86 hr86) (cwV 0 hts gX8_reads_X8_token rfl rfl rfl (by decide +kernel) ⟨Nat.le_of_ble_eq_true rfl, Nat.le_of_ble_eq_true rfl⟩) ⟨(fun a U g mk q => ⟨q.1, q.2.1, q.2.2.1, GE.calling q.2.2.2.1, q.2.2.2.2⟩), va_recv hK hPc (ci := 8) (q0 := 0) rfl rfl, (fun U hU hW => ⟨rfl, by rw [hU], by rw [hU]; exact hPc, GE.warm hW G, hDc.weaken (fun _ _ _ _ => trivial)⟩)⟩ rfl rfl hl.1 rfl (lv_room (Nat.le_of_ble_eq_true rfl)) dX8_reads_86 ⟨Nat.le_of_ble_eq_true rfl, Nat.le_of_ble_eq_true rfl⟩) hS (fun q _ h => hFc q h) hFc (fun u t H1 locs ht hvm hw hB hz1 hk1 hS => ?_)
        obtain rfl := hw.symm
        obtain ⟨hP1, hD1⟩ := hB
        rw [ht] at hP1
        obtain ⟨hP, hD⟩ := va_join (wr := []) (w1 := (wM cs a r86)) hP hD [0, 1, 2, 3, 4, 5, 6, 7, 8, 9, 10, 11] [] rfl rfl (by decide) (by decide) hk1 hFc hP1 hD1
        generalize H1 = H at hP hS ⊢
        have hP := hP.sub (ws' := (wM cs a r86)) [0, 1, 2, 3, 4, 5, 6, 7, 8, 9, 10, 11] rfl
        have hD := hD.sub (ws' := (wM cs a r86)) [0, 1, 2, 3, 4, 5, 6, 7, 8, 9, 10, 11] (by decide) rfl
        refine lv_goto (tgt := 33) hx hb dX8_reads_89 (by decide) ?_
        exact hK33 x1_82 r86 _ _ _ (lv_sub hl [2, 0] rfl) hP hD hS hf
      · replace hf := it_f c3 hf
        refine lv_iconst (v := -1) hx hb dX8_reads_80 (by decide) ?_
        exact hR _ _ _ _ _ _ dX8_reads_81 hf hP hD hS
    · replace hf := it_t c2 hf
      refine lv_iconst (v := -1) hx hb dX8_reads_66 (by decide) ?_
      exact hR _ _ _ _ _ _ dX8_reads_67 hf hP hD hS
def f_X8_reads_33 (x1 : Int32) (M : Ms) (K33 : Int32 → Ms → Option (Int32 × Ms)) : Option (Int32 × Ms) :=
  if (M.1 4) = 0 then (
    if x1 = 0 then (
      f_X8_reads_44 x1 M K33
    ) else (
      some (x1, M)
    )
  ) else (
    f_X8_reads_44 x1 M K33
  )
set_option maxHeartbeats 4000000 in
set_option maxRecDepth 100000 in
theorem b_X8_reads_33 {p : Program} {l : Launch} {e : Env} {s : State} {m : MethodId} {args : Array Value} {below : List Frame} {meth : Method} {c : Code} {Q : State → Prop} {dC : Nat → ClassId} {dI : Nat → Nat → Nat} {cs : Nat → ClassId} {A : Nat → Prop} {a : Nat → Nat} {res : Int32 × Ms} (C : CallFix p m c cX8_reads 3 s args wsX8_reads RX8) (G : GE dC dI cs s) (hA : ∀ q : Nat, s.heap.size ≤ q → A q) (hR : RTi p l e ({ frames := 6, cells := 0, slots := 0, locals := 132 }) s m args below meth c cX8_reads Q (dC, dI) A (fun u : Ms => (wM cs a u)) res) (x1 : Int32) (M : Ms) {K33 : Int32 → Ms → Option (Int32 × Ms)} (hK33 : ∀ (x1 : Int32) (M : Ms) (H : Heap) (locs : List Loc) (ls : Array Slot), lv_has ls 3 [(0, .ref (a 0)), (1, .int (x1))] → va_P (dC, dI) vwCl (wM cs a M) H → va_D A (wM cs a M) → va_S A s.heap H locs → K33 x1 M = some res → W p l e ({ frames := 6, cells := 0, slots := 0, locals := 132 }) s m args below meth c H locs 0 0 Q (F0 m 33 ls [])) (H : Heap) (locs : List Loc) (ls : Array Slot) (hl : lv_has ls 3 [(0, .ref (a 0)), (1, .int (x1))]) (hP : va_P (dC, dI) vwCl (wM cs a M) H) (hD : va_D A (wM cs a M)) (hS : va_S A s.heap H locs) (hf : f_X8_reads_33 x1 M K33 = some res) : W p l e ({ frames := 6, cells := 0, slots := 0, locals := 132 }) s m args below meth c H locs 0 0 Q (F0 m 33 ls []) := by
  obtain ⟨hx, hb, hml, hown, hts⟩ := id C
  obtain ⟨hK, hN⟩ := id G
  unfold f_X8_reads_33 at hf
  refine lv_aload_n hx hb dX8_reads_33 rfl (lv_at hl 0 rfl) ?_
  refine va_get (D := (dC, dI)) (ci := 8) (v := .int ((M.1 4))) (C := RX8) (T := TX8) (N := 20) hx hb hts in_X8_reads_X8 hown hK hP 0 rfl rfl 13 (by decide) (hts (.fieldLink RX8 99 "BackLoansModel" "sort" "I") (by decide +kernel)) (fun _ h9 => h9) rfl dX8_reads_34 ?_
  refine lv_if_ne (tgt := 44) hx hb dX8_reads_37 (by decide) (fun c1 => ?_) (fun c1 => ?_)
  · replace hf := it_f c1 hf
    exact b_X8_reads_44 C G hA hR x1 M hK33 _ _ _ (lv_sub hl [0, 1] rfl) hP hD hS hf
  · replace hf := it_t c1 hf
    refine lv_iload_n hx hb dX8_reads_40 rfl (lv_at hl 1 rfl) ?_
    refine lv_if_ne (tgt := 92) hx hb dX8_reads_41 (by decide) (fun c2 => ?_) (fun c2 => ?_)
    · replace hf := it_f c2 hf
      refine lv_iload_n hx hb dX8_reads_92 rfl (lv_at hl 1 rfl) ?_
      exact hR _ _ _ _ _ _ dX8_reads_93 hf hP hD hS
    · replace hf := it_t c2 hf
      exact b_X8_reads_44 C G hA hR x1 M hK33 _ _ _ (lv_sub hl [0, 1] rfl) hP hD hS hf
def l_X8_reads_33   (n : Nat) (x1 : Int32) (M : Ms) : Option (Int32 × Ms) := itr (fun (k : Int32 × Ms → Option (Int32 × Ms)) (z : Int32 × Ms) => f_X8_reads_33 z.1 z.2 (fun x1 M => k (x1, M))) n (x1, M)
set_option maxHeartbeats 4000000 in
set_option maxRecDepth 100000 in
theorem w_X8_reads_33 {p : Program} {l : Launch} {e : Env} {s : State} {m : MethodId} {args : Array Value} {below : List Frame} {meth : Method} {c : Code} {Q : State → Prop} {dC : Nat → ClassId} {dI : Nat → Nat → Nat} {cs : Nat → ClassId} {A : Nat → Prop} {a : Nat → Nat} {res : Int32 × Ms} (C : CallFix p m c cX8_reads 3 s args wsX8_reads RX8) (G : GE dC dI cs s) (hA : ∀ q : Nat, s.heap.size ≤ q → A q) (hR : RTi p l e ({ frames := 6, cells := 0, slots := 0, locals := 132 }) s m args below meth c cX8_reads Q (dC, dI) A (fun u : Ms => (wM cs a u)) res)    : ∀ (n : Nat) (x1 : Int32) (M : Ms) (H : Heap) (locs : List Loc) (ls : Array Slot), lv_has ls 3 [(0, .ref (a 0)), (1, .int (x1))] → va_P (dC, dI) vwCl (wM cs a M) H → va_D A (wM cs a M) → va_S A s.heap H locs → l_X8_reads_33 n x1 M = some res → W p l e ({ frames := 6, cells := 0, slots := 0, locals := 132 }) s m args below meth c H locs 0 0 Q (F0 m 33 ls []) := by
  intro n
  induction n with
  | zero => intro x1 M H locs ls hl hP hD hS hf; exact absurd hf (by simp [l_X8_reads_33, itr])
  | succ n ih => intro x1 M H locs ls hl hP hD hS hf; exact b_X8_reads_33 C G hA hR x1 M (K33 := fun x1 M => l_X8_reads_33 n x1 M) (fun x1 M H locs ls hl hP hD hS hf => ih x1 M H locs ls hl hP hD hS hf) H locs ls hl hP hD hS hf
def f_X8_reads_22 (M : Ms)  : Option (Int32 × Ms) :=
  lett ((upd M.1 1 ((0 : Int32)), M.2)) fun M_24 =>
  bn (f_X8_token M_24) fun r28 =>
  lett (0 : Int32) fun x1_32 =>
  l_X8_reads_33 FU x1_32 r28
set_option maxHeartbeats 4000000 in
set_option maxRecDepth 100000 in
theorem b_X8_reads_22 {p : Program} {l : Launch} {e : Env} {s : State} {m : MethodId} {args : Array Value} {below : List Frame} {meth : Method} {c : Code} {Q : State → Prop} {dC : Nat → ClassId} {dI : Nat → Nat → Nat} {cs : Nat → ClassId} {A : Nat → Prop} {a : Nat → Nat} {res : Int32 × Ms} (C : CallFix p m c cX8_reads 3 s args wsX8_reads RX8) (G : GE dC dI cs s) (hA : ∀ q : Nat, s.heap.size ≤ q → A q) (hR : RTi p l e ({ frames := 6, cells := 0, slots := 0, locals := 132 }) s m args below meth c cX8_reads Q (dC, dI) A (fun u : Ms => (wM cs a u)) res) (M : Ms)   (H : Heap) (locs : List Loc) (ls : Array Slot) (hl : lv_has ls 3 [(0, .ref (a 0))]) (hP : va_P (dC, dI) vwCl (wM cs a M) H) (hD : va_D A (wM cs a M)) (hS : va_S A s.heap H locs) (hf : f_X8_reads_22 M = some res) : W p l e ({ frames := 6, cells := 0, slots := 0, locals := 132 }) s m args below meth c H locs 0 0 Q (F0 m 22 ls []) := by
  obtain ⟨hx, hb, hml, hown, hts⟩ := id C
  obtain ⟨hK, hN⟩ := id G
  unfold f_X8_reads_22 at hf
  refine lv_aload_n hx hb dX8_reads_22 rfl (lv_at hl 0 rfl) ?_
  refine lv_iconst (v := 0) hx hb dX8_reads_23 (by decide) ?_
  refine va_put (D := (dC, dI)) (ci := 8) (v := .int ((0 : Int32))) (ty := .int) (C := RX8) (T := TX8) (N := 20) hx hb hts in_X8_reads_X8 tyX8 tyX8_ok nmX8 hown hK hP hD hS 0 rfl rfl 10 (by decide) (hts (.fieldLink RX8 83 "BackLoansModel" "at" "I") (by decide +kernel)) (fun _ h9 => h9) rfl (by decide +kernel) rfl rfl (Nat.le_of_ble_eq_true rfl) dX8_reads_24 (fun H locs hP hD hS => ?_)
  obtain ⟨M_24, hP, hD, hf⟩ := st_nm (ws := fun M_24 : Ms => (wM cs a M_24)) ((upd M.1 1 ((0 : Int32)), M.2)) hP hD hf
  refine lv_aload_n hx hb dX8_reads_27 rfl (lv_at hl 0 rfl) ?_
  obtain ⟨r28, hr28, hf⟩ := bn_e hf
  have hPc := hP.sub (ws' := (wM cs a M_24)) [0, 1, 2, 3, 4, 5, 6, 7, 8, 9, 10, 11] rfl
  have hDc := hD.sub (ws' := (wM cs a M_24)) [0, 1, 2, 3, 4, 5, 6, 7, 8, 9, 10, 11] (by decide) rfl
  have hFc := va_free (wc := (wM cs a M_24)) hD hS hA [0, 1, 2, 3, 4, 5, 6, 7, 8, 9, 10, 11] rfl
  refine va_callv (va_runV (As := []) (rest := []) C (c_X8_token l dC dI cs a H.size M_24 r28 hr28) (cwV 0 hts gX8_reads_X8_token rfl rfl rfl (by decide +kernel) ⟨Nat.le_of_ble_eq_true rfl, Nat.le_of_ble_eq_true rfl⟩) ⟨(fun a U g mk q => ⟨q.1, q.2.1, q.2.2.1, GE.calling q.2.2.2.1, q.2.2.2.2⟩), va_recv hK hPc (ci := 8) (q0 := 0) rfl rfl, (fun U hU hW => ⟨rfl, by rw [hU], by rw [hU]; exact hPc, GE.warm hW G, hDc.weaken (fun _ _ _ _ => trivial)⟩)⟩ rfl rfl hl.1 rfl (lv_room (Nat.le_of_ble_eq_true rfl)) dX8_reads_28 ⟨Nat.le_of_ble_eq_true rfl, Nat.le_of_ble_eq_true rfl⟩) hS (fun q _ h => hFc q h) hFc (fun u t H1 locs ht hvm hw hB hz1 hk1 hS => ?_)
  obtain rfl := hw.symm
  obtain ⟨hP1, hD1⟩ := hB
  rw [ht] at hP1
  obtain ⟨hP, hD⟩ := va_join (wr := []) (w1 := (wM cs a r28)) hP hD [0, 1, 2, 3, 4, 5, 6, 7, 8, 9, 10, 11] [] rfl rfl (by decide) (by decide) hk1 hFc hP1 hD1
  generalize H1 = H at hP hS ⊢
  have hP := hP.sub (ws' := (wM cs a r28)) [0, 1, 2, 3, 4, 5, 6, 7, 8, 9, 10, 11] rfl
  have hD := hD.sub (ws' := (wM cs a r28)) [0, 1, 2, 3, 4, 5, 6, 7, 8, 9, 10, 11] (by decide) rfl
  refine lv_iconst (v := 0) hx hb dX8_reads_31 (by decide) ?_
  refine lv_topi (fun x1_32 ex1_32 => ?_)
  replace hf := lett_s ex1_32 hf
  refine lv_istore_n (lv' := [(1, .int (x1_32)), (0, .ref (a 0))]) hx hb dX8_reads_32 rfl hl (by decide) rfl (fun ls hl => ?_)
  exact w_X8_reads_33 C G hA hR FU x1_32 r28 _ _ _ (lv_sub hl [1, 0] rfl) hP hD hS hf
def f_X8_reads  (M : Ms) : Option (Int32 × Ms) :=
  lett (0 : Int32) fun x1_1 =>
  l_X8_reads_2 (fun Mz => f_X8_reads_22 Mz) FU x1_1 M
set_option maxHeartbeats 4000000 in
set_option maxRecDepth 100000 in
theorem c_X8_reads (l : Launch) (dC : Nat → ClassId) (dI : Nat → Nat → Nat) (cs : Nat → ClassId) (a : Nat → Nat) (sz : Nat) (M : Ms)  (res : Int32 × Ms) (hf : f_X8_reads M = some res) : Met l yX8_reads wsX8_reads ({ frames := 6, cells := 0, slots := 0, locals := 132 }) (va_Pc [.ref (a 0)] (fun U => U.heap.size = sz ∧ va_P (dC, dI) vwCl (wM cs a M) U.heap ∧ GE dC dI cs U ∧ va_D (fun _ => True) (wM cs a M))) (va_Qi (fun r (u : Ms) => r = res.1 ∧ u = res.2) (fun u t => va_P (dC, dI) vwCl ((fun u : Ms => (wM cs a u)) u) t.heap ∧ va_D (va_A (wM cs a M) sz) ((fun u : Ms => (wM cs a u)) u)) (va_A (wM cs a M) sz)) 0 0 (va_A (wM cs a M) sz) := by
  refine Met.ofW (cc := cX8_reads) (maxL := 3) (ret := (some .int)) (by decide) rfl ?_
  intro p e s m args below meth c s₁ Bd hml hv
  obtain ⟨rfl, hsz, hP, G, hD0⟩ := hv
  have hts := atoms_spec (ws := wsX8_reads) Bd.pre
  have hown : s.vm.findClass RX8 = some m.cls := findClass_of_methodNamed Bd.named
  have hlocks := Bd.notSynchronized
  have hx := Bd.exec
  have hb := Bd.bytes
  have hr := Bd.returns
  have C : CallFix p m c cX8_reads 3 s _ wsX8_reads RX8 := ⟨hx, hb, hml, hown, hts⟩
  obtain ⟨hK, hN⟩ := id G
  subst hsz
  have hD := hD0.self (sz := s.heap.size)
  generalize hAe : va_A (wM cs a M) s.heap.size = A at hD ⊢
  have hA : ∀ q : Nat, s.heap.size ≤ q → A q := fun q h => by rw [← hAe]; exact Or.inr h
  have hS : va_S A s.heap s.heap [] := va_S.rf
  have hR : RTi p l e ({ frames := 6, cells := 0, slots := 0, locals := 132 }) s m ([.ref (a 0)] : List Value).toArray below meth c cX8_reads (MQ below (va_Qi (fun r (u : Ms) => r = res.1 ∧ u = res.2) (fun u t => va_P (dC, dI) vwCl ((fun u : Ms => (wM cs a u)) u) t.heap ∧ va_D A ((fun u : Ms => (wM cs a u)) u)) A) ([.ref (a 0)] : List Value).toArray s 0 0 A) (dC, dI) A (fun u : Ms => (wM cs a u)) res := fun H locs pc ls r u dd h hP hD hS => W.iret hx hb hr (fun t ht hW => ⟨⟨r, u, rfl, by cases h; exact ⟨rfl, rfl⟩, by rw [ht]; exact hP, hD⟩, hS.F ht⟩) hS.2.2 dd
  have hl := lv_entry ([.ref (a 0)]) (n := 3) (Nat.le_of_ble_eq_true rfl)
  rw [lg_entry_eq]
  generalize (lg_sl ([.ref (a 0)]) ++ List.replicate (3 - (lg_sl ([.ref (a 0)])).length) Slot.unset).toArray = ls at hl ⊢
  have hl : lv_has ls 3 [(0, .ref (a 0))] := hl
  unfold f_X8_reads at hf
  refine lv_iconst (v := 0) hx hb dX8_reads_0 (by decide) ?_
  refine lv_topi (fun x1_1 ex1_1 => ?_)
  replace hf := lett_s ex1_1 hf
  refine lv_istore_n (lv' := [(1, .int (x1_1)), (0, .ref (a 0))]) hx hb dX8_reads_1 rfl hl (by decide) rfl (fun ls hl => ?_)
  exact w_X8_reads_2 C G hA hR (fun Mz H locs ls hl hP hD hS hf => b_X8_reads_22 C G hA hR Mz _ _ _ hl hP hD hS hf) FU x1_1 M _ _ _ (lv_sub hl [1, 0] rfl) hP hD hS hf

theorem in_X8_read_X8 : ∀ w ∈ wsX80, w ∈ wsX8_read := by decide +kernel
def f_X8_read  (M : Ms) : Option (Int32 × Ms) :=
  bn (f_X8_reads M) fun r1 =>
  if r1.1 = (-1 : Int32) then (
    some (((-10 : Int32) - (r1.2.1 2)), r1.2)
  ) else (
    bn (f_X8_copy 362 362 (0 : Int32) (0 : Int32) (r1.2.2.2 2) (r1.2.2.2 0)) fun r28 =>
    lett ((r1.2.1, r1.2.2.1, va_up r1.2.2.2 0 (r28))) fun M_28 =>
    some (r1.1, M_28)
  )
set_option maxHeartbeats 4000000 in
set_option maxRecDepth 100000 in
theorem c_X8_read (l : Launch) (dC : Nat → ClassId) (dI : Nat → Nat → Nat) (cs : Nat → ClassId) (a : Nat → Nat) (sz : Nat) (M : Ms)  (res : Int32 × Ms) (hf : f_X8_read M = some res) : Met l yX8_read wsX8_read ({ frames := 7, cells := 0, slots := 0, locals := 154 }) (va_Pc [.ref (a 0)] (fun U => U.heap.size = sz ∧ va_P (dC, dI) vwCl (wM cs a M) U.heap ∧ GE dC dI cs U ∧ va_D (fun _ => True) (wM cs a M))) (va_Qi (fun r (u : Ms) => r = res.1 ∧ u = res.2) (fun u t => va_P (dC, dI) vwCl ((fun u : Ms => (wM cs a u)) u) t.heap ∧ va_D (va_A (wM cs a M) sz) ((fun u : Ms => (wM cs a u)) u)) (va_A (wM cs a M) sz)) 0 0 (va_A (wM cs a M) sz) := by
  refine Met.ofW (cc := cX8_read) (maxL := 2) (ret := (some .int)) (by decide) rfl ?_
  intro p e s m args below meth c s₁ Bd hml hv
  obtain ⟨rfl, hsz, hP, G, hD0⟩ := hv
  have hts := atoms_spec (ws := wsX8_read) Bd.pre
  have hown : s.vm.findClass RX8 = some m.cls := findClass_of_methodNamed Bd.named
  have hlocks := Bd.notSynchronized
  have hx := Bd.exec
  have hb := Bd.bytes
  have hr := Bd.returns
  have C : CallFix p m c cX8_read 2 s _ wsX8_read RX8 := ⟨hx, hb, hml, hown, hts⟩
  obtain ⟨hK, hN⟩ := id G
  subst hsz
  have hD := hD0.self (sz := s.heap.size)
  generalize hAe : va_A (wM cs a M) s.heap.size = A at hD ⊢
  have hA : ∀ q : Nat, s.heap.size ≤ q → A q := fun q h => by rw [← hAe]; exact Or.inr h
  have hS : va_S A s.heap s.heap [] := va_S.rf
  have hR : RTi p l e ({ frames := 7, cells := 0, slots := 0, locals := 154 }) s m ([.ref (a 0)] : List Value).toArray below meth c cX8_read (MQ below (va_Qi (fun r (u : Ms) => r = res.1 ∧ u = res.2) (fun u t => va_P (dC, dI) vwCl ((fun u : Ms => (wM cs a u)) u) t.heap ∧ va_D A ((fun u : Ms => (wM cs a u)) u)) A) ([.ref (a 0)] : List Value).toArray s 0 0 A) (dC, dI) A (fun u : Ms => (wM cs a u)) res := fun H locs pc ls r u dd h hP hD hS => W.iret hx hb hr (fun t ht hW => ⟨⟨r, u, rfl, by cases h; exact ⟨rfl, rfl⟩, by rw [ht]; exact hP, hD⟩, hS.F ht⟩) hS.2.2 dd
  have hl := lv_entry ([.ref (a 0)]) (n := 2) (Nat.le_of_ble_eq_true rfl)
  rw [lg_entry_eq]
  generalize (lg_sl ([.ref (a 0)]) ++ List.replicate (2 - (lg_sl ([.ref (a 0)])).length) Slot.unset).toArray = ls at hl ⊢
  have hl : lv_has ls 2 [(0, .ref (a 0))] := hl
  unfold f_X8_read at hf
  refine lv_aload_n hx hb dX8_read_0 rfl (lv_at hl 0 rfl) ?_
  obtain ⟨r1, hr1, hf⟩ := bn_e hf
  have hPc := hP.sub (ws' := (wM cs a M)) [0, 1, 2, 3, 4, 5, 6, 7, 8, 9, 10, 11] rfl
  have hDc := hD.sub (ws' := (wM cs a M)) [0, 1, 2, 3, 4, 5, 6, 7, 8, 9, 10, 11] (by decide) rfl
  have hFc := va_free (wc := (wM cs a M)) hD hS hA [0, 1, 2, 3, 4, 5, 6, 7, 8, 9, 10, 11] rfl
  refine va_calli (va_runV (As := []) (rest := []) C (c_X8_reads l dC dI cs a s.heap.size M r1 hr1) (cwV 0 hts gX8_read_X8_reads rfl rfl rfl (by decide +kernel) ⟨Nat.le_of_ble_eq_true rfl, Nat.le_of_ble_eq_true rfl⟩) ⟨(fun a U g mk q => ⟨q.1, q.2.1, q.2.2.1, GE.calling q.2.2.2.1, q.2.2.2.2⟩), va_recv hK hPc (ci := 8) (q0 := 0) rfl rfl, (fun U hU hW => ⟨rfl, by rw [hU], by rw [hU]; exact hPc, GE.warm hW G, hDc.weaken (fun _ _ _ _ => trivial)⟩)⟩ rfl rfl hl.1 rfl (lv_room (Nat.le_of_ble_eq_true rfl)) dX8_read_1 ⟨Nat.le_of_ble_eq_true rfl, Nat.le_of_ble_eq_true rfl⟩) hS (fun q _ h => hFc q h) hFc (fun q u t H1 locs ht hvm hw hB hz1 hk1 hS => ?_)
  obtain ⟨rfl, rfl⟩ := hw
  obtain ⟨hP1, hD1⟩ := hB
  rw [ht] at hP1
  obtain ⟨hP, hD⟩ := va_join (wr := []) (w1 := (wM cs a r1.2)) hP hD [0, 1, 2, 3, 4, 5, 6, 7, 8, 9, 10, 11] [] rfl rfl (by decide) (by decide) hk1 hFc hP1 hD1
  generalize H1 = H at hP hS ⊢
  have hP := hP.sub (ws' := (wM cs a r1.2)) [0, 1, 2, 3, 4, 5, 6, 7, 8, 9, 10, 11] rfl
  have hD := hD.sub (ws' := (wM cs a r1.2)) [0, 1, 2, 3, 4, 5, 6, 7, 8, 9, 10, 11] (by decide) rfl
  refine lv_istore_n (lv' := [(1, .int (r1.1)), (0, .ref (a 0))]) hx hb dX8_read_4 rfl hl (by decide) rfl (fun ls hl => ?_)
  refine lv_iload_n hx hb dX8_read_5 rfl (lv_at hl 0 rfl) ?_
  refine lv_iconst (v := -1) hx hb dX8_read_6 (by decide) ?_
  refine lv_icmp_ne (tgt := 18) hx hb dX8_read_7 (by decide) (fun c1 => ?_) (fun c1 => ?_)
  · replace hf := it_f c1 hf
    refine lv_aload_n hx hb dX8_read_18 rfl (lv_at hl 1 rfl) ?_
    refine va_get (D := (dC, dI)) (ci := 8) (v := .ref (a 3)) (C := RX8) (T := TX8) (N := 20) hx hb hts in_X8_read_X8 hown hK hP 0 rfl rfl 2 (by decide) (hts (.fieldLink RX8 16 "BackLoansModel" "draft" "[I") (by decide +kernel)) (fun _ h9 => h9) rfl dX8_read_19 ?_
    refine lv_iconst (v := 0) hx hb dX8_read_22 (by decide) ?_
    refine lv_aload_n hx hb dX8_read_23 rfl (lv_at hl 1 rfl) ?_
    refine va_get (D := (dC, dI)) (ci := 8) (v := .ref (a 1)) (C := RX8) (T := TX8) (N := 20) hx hb hts in_X8_read_X8 hown hK hP 0 rfl rfl 0 (by decide) (hts (.fieldLink RX8 7 "BackLoansModel" "now" "[I") (by decide +kernel)) (fun _ h9 => h9) rfl dX8_read_24 ?_
    refine lv_iconst (v := 0) hx hb dX8_read_27 (by decide) ?_
    obtain ⟨r28, hr28, hf⟩ := bn_e hf
    have hPc := hP.sub (ws' := (wA cs (a 3) 362 (r1.2.2.2 2) ++ wA cs (a 1) 362 (r1.2.2.2 0))) [3, 1] rfl
    have hDc := hD.sub (ws' := (wA cs (a 3) 362 (r1.2.2.2 2) ++ wA cs (a 1) 362 (r1.2.2.2 0))) [3, 1] (by decide) rfl
    have hFc := va_free (wc := (wA cs (a 3) 362 (r1.2.2.2 2) ++ wA cs (a 1) 362 (r1.2.2.2 0))) hD hS hA [3, 1] rfl
    refine va_callv (va_runS (As := [.ref (a 3), .int ((0 : Int32)), .ref (a 1), .int ((0 : Int32))]) (rest := []) C (c_X8_copy l dC dI cs (a 3) (a 1) 362 362 H.size (r1.2.2.2 2) (r1.2.2.2 0) (0 : Int32) (0 : Int32) r28 hr28) (va_cwS 4 hts gX8_read_X8_copy rfl rfl rfl (by decide +kernel) ⟨Nat.le_of_ble_eq_true rfl, Nat.le_of_ble_eq_true rfl⟩) ⟨(fun a U g mk q => ⟨q.1, q.2.1, q.2.2.1, GE.calling q.2.2.2.1, q.2.2.2.2⟩), (fun U hU hW => ⟨rfl, by rw [hU], by rw [hU]; exact hPc, GE.warm hW G, hDc.weaken (fun _ _ _ _ => trivial)⟩)⟩ rfl rfl hl.1 rfl (lv_room (Nat.le_of_ble_eq_true rfl)) dX8_read_28 ⟨Nat.le_of_ble_eq_true rfl, Nat.le_of_ble_eq_true rfl⟩) hS (fun q _ h => hFc q h) hFc (fun u t H1 locs ht hvm hw hB hz1 hk1 hS => ?_)
    obtain rfl := hw.symm
    obtain ⟨hP1, hD1⟩ := hB
    rw [ht] at hP1
    obtain ⟨hP, hD⟩ := va_join (wr := [0, 2, 4, 5, 6, 7, 8, 9, 10, 11].filterMap (fun i => ((wM cs a r1.2))[i]?)) (w1 := (wA cs (a 3) 362 (r1.2.2.2 2) ++ wA cs (a 1) 362 r28)) hP hD [3, 1] [0, 2, 4, 5, 6, 7, 8, 9, 10, 11] rfl rfl (by decide) (by decide) hk1 hFc hP1 hD1
    generalize H1 = H at hP hS ⊢
    have hP := hP.sub (ws' := (wM cs a (r1.2.1, r1.2.2.1, va_up r1.2.2.2 0 (r28)))) [0, 11, 1, 10, 2, 3, 4, 5, 6, 7, 8, 9] rfl
    have hD := hD.sub (ws' := (wM cs a (r1.2.1, r1.2.2.1, va_up r1.2.2.2 0 (r28)))) [0, 11, 1, 10, 2, 3, 4, 5, 6, 7, 8, 9] (by decide) rfl
    obtain ⟨M_28, hP, hD, hf⟩ := st_nm (ws := fun M_28 : Ms => (wM cs a M_28)) ((r1.2.1, r1.2.2.1, va_up r1.2.2.2 0 (r28))) hP hD hf
    refine lv_iload_n hx hb dX8_read_31 rfl (lv_at hl 0 rfl) ?_
    exact hR _ _ _ _ _ _ dX8_read_32 hf hP hD hS
  · replace hf := it_t c1 hf
    refine lv_bipush (v := -10) hx hb dX8_read_10 (by decide) ?_
    refine lv_aload_n hx hb dX8_read_12 rfl (lv_at hl 1 rfl) ?_
    refine va_get (D := (dC, dI)) (ci := 8) (v := .int ((r1.2.1 2))) (C := RX8) (T := TX8) (N := 20) hx hb hts in_X8_read_X8 hown hK hP 0 rfl rfl 11 (by decide) (hts (.fieldLink RX8 90 "BackLoansModel" "start" "I") (by decide +kernel)) (fun _ h9 => h9) rfl dX8_read_13 ?_
    refine lv_isub hx hb dX8_read_16 ?_
    exact hR _ _ _ _ _ _ dX8_read_17 hf hP hD hS

