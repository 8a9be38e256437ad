theorem in_X4_add_X4 : ∀ w ∈ wsX40, w ∈ wsX4_add := by decide +kernel
def f_X4_add (x1 : Int32) (X : Tx) : Option Tx :=
  if (150 : Int32) ≤ (X.1 0) then (
    some X
  ) else (
    gi ((X.1 0)) 150 <|
    lett ((X.1, upd X.2 ((X.1 0)).toNatClampNeg (vp_nar .byte (x1)))) fun X_19 =>
    lett ((upd X_19.1 0 (((X_19.1 0) + (1 : Int32))), X_19.2)) fun X_27 =>
    some X_27
  )
set_option maxHeartbeats 4000000 in
set_option maxRecDepth 100000 in
theorem c_X4_add (l : Launch) (dC : Nat → ClassId) (dI : Nat → Nat → Nat) (cs : Nat → ClassId) (a : Nat → Nat) (sz : Nat) (X : Tx) (x1 : Int32) (res : Tx) (hf : f_X4_add x1 X = some res) : Met l yX4_add wsX4_add ({ frames := 0, cells := 0, slots := 0, locals := 0 }) (va_Pc [.ref (a 0), .int (x1)] (fun U => U.heap.size = sz ∧ va_P (dC, dI) vwCl (wX cs a X) U.heap ∧ GE dC dI cs U ∧ va_D (fun _ => True) (wX cs a X))) (va_Qv (fun u : Tx => u = res) (fun u t => va_P (dC, dI) vwCl ((fun u : Tx => (wX cs a u)) u) t.heap ∧ va_D (va_A (wX cs a X) sz) ((fun u : Tx => (wX cs a u)) u)) (va_A (wX cs a X) sz)) 0 0 (va_A (wX cs a X) sz) := by
  refine Met.ofW (cc := cX4_add) (maxL := 2) (ret := none) (by decide) rfl ?_
  intro p e s m args below meth c s₁ B hml hv
  obtain ⟨rfl, hsz, hP, G, hD0⟩ := hv
  have hts := atoms_spec (ws := wsX4_add) B.pre
  have hown : s.vm.findClass RX4 = some m.cls := findClass_of_methodNamed B.named
  have hlocks := B.notSynchronized
  have hx := B.exec
  have hb := B.bytes
  have hr := B.returns
  have C : CallFix p m c cX4_add 2 s _ wsX4_add RX4 := ⟨hx, hb, hml, hown, hts⟩
  obtain ⟨hK, hN⟩ := id G
  subst hsz
  have hD := hD0.self (sz := s.heap.size)
  generalize hAe : va_A (wX cs a X) s.heap.size = A at hD ⊢
  have hA : ∀ q : Nat, s.heap.size ≤ q → A q := fun q h => by rw [← hAe]; exact Or.inr h
  have hS : va_S A s.heap s.heap [] := va_S.rf
  have hR : RTv p l e ({ frames := 0, cells := 0, slots := 0, locals := 0 }) s m ([.ref (a 0), .int (x1)] : List Value).toArray below meth c cX4_add (MQ below (va_Qv (fun u : Tx => u = res) (fun u t => va_P (dC, dI) vwCl ((fun u : Tx => (wX cs a u)) u) t.heap ∧ va_D A ((fun u : Tx => (wX cs a u)) u)) A) ([.ref (a 0), .int (x1)] : List Value).toArray s 0 0 A) (dC, dI) A (fun u : Tx => (wX cs a u)) res := fun H locs pc ls u dd h hP hD hS => W.vret hx hb hr (fun t ht hW => ⟨⟨u, rfl, by cases h; rfl, by rw [ht]; exact hP, hD⟩, hS.F ht⟩) hS.2.2 dd
  have hl := lv_entry ([.ref (a 0), .int (x1)]) (n := 2) (Nat.le_of_ble_eq_true rfl)
  rw [lg_entry_eq]
  generalize (lg_sl ([.ref (a 0), .int (x1)]) ++ List.replicate (2 - (lg_sl ([.ref (a 0), .int (x1)])).length) Slot.unset).toArray = ls at hl ⊢
  have hl : lv_has ls 2 [(0, .ref (a 0)), (1, .int (x1))] := hl
  unfold f_X4_add at hf
  refine lv_aload_n hx hb dX4_add_0 rfl (lv_at hl 0 rfl) ?_
  refine va_get (D := (dC, dI)) (ci := 4) (v := .int ((X.1 0))) (C := RX4) (T := TX4) (N := 6) hx hb hts in_X4_add_X4 hown hK hP 0 rfl rfl 0 (by decide) (hts (.fieldLink RX4 15 "BackLoans$Text" "length" "I") (by decide +kernel)) (fun _ h9 => h9) rfl dX4_add_1 ?_
  refine lv_sipush (v := 150) hx hb dX4_add_4 (by decide) ?_
  refine lv_icmp_ge (tgt := 30) hx hb dX4_add_7 (by decide) (fun c1 => ?_) (fun c1 => ?_)
  · replace hf := it_t c1 hf
    exact hR _ _ _ _ _ dX4_add_30 hf hP hD hS
  · replace hf := it_f c1 hf
    refine lv_aload_n hx hb dX4_add_10 rfl (lv_at hl 0 rfl) ?_
    refine va_get (D := (dC, dI)) (ci := 4) (v := .ref (a 1)) (C := RX4) (T := TX4) (N := 6) hx hb hts in_X4_add_X4 hown hK hP 0 rfl rfl 1 (by decide) (hts (.fieldLink RX4 9 "BackLoans$Text" "bytes" "[B") (by decide +kernel)) (fun _ h9 => h9) rfl dX4_add_11 ?_
    refine lv_aload_n hx hb dX4_add_14 rfl (lv_at hl 0 rfl) ?_
    refine va_get (D := (dC, dI)) (ci := 4) (v := .int ((X.1 0))) (C := RX4) (T := TX4) (N := 6) hx hb hts in_X4_add_X4 hown hK hP 0 rfl rfl 0 (by decide) (hts (.fieldLink RX4 15 "BackLoans$Text" "length" "I") (by decide +kernel)) (fun _ h9 => h9) rfl dX4_add_15 ?_
    refine lv_iload_n hx hb dX4_add_18 rfl (lv_at hl 1 rfl) ?_
    obtain ⟨hi2, hf⟩ := gi_e hf
    refine va_bast hx hb hK hP hD hS 1 2 rfl rfl hi2 dX4_add_19 (fun H locs hP hD hS => ?_)
    obtain ⟨X_19, hP, hD, hf⟩ := st_nm (ws := fun X_19 : Tx => (wX cs a X_19)) ((X.1, upd X.2 ((X.1 0)).toNatClampNeg (vp_nar .byte (x1)))) hP hD hf
    refine lv_aload_n hx hb dX4_add_20 rfl (lv_at hl 0 rfl) ?_
    refine lv_dup hx hb dX4_add_21 rfl ?_
    refine va_get (D := (dC, dI)) (ci := 4) (v := .int ((X_19.1 0))) (C := RX4) (T := TX4) (N := 6) hx hb hts in_X4_add_X4 hown hK hP 0 rfl rfl 0 (by decide) (hts (.fieldLink RX4 15 "BackLoans$Text" "length" "I") (by decide +kernel)) (fun _ h9 => h9) rfl dX4_add_22 ?_
    refine lv_iconst (v := 1) hx hb dX4_add_25 (by decide) ?_
    refine lv_iadd hx hb dX4_add_26 ?_
    refine va_put (D := (dC, dI)) (ci := 4) (v := .int (((X_19.1 0) + (1 : Int32)))) (ty := .int) (C := RX4) (T := TX4) (N := 6) hx hb hts in_X4_add_X4 tyX4 tyX4_ok nmX4 hown hK hP hD hS 0 rfl rfl 0 (by decide) (hts (.fieldLink RX4 15 "BackLoans$Text" "length" "I") (by decide +kernel)) (fun _ h9 => h9) rfl (by decide +kernel) rfl rfl (Nat.le_of_ble_eq_true rfl) dX4_add_27 (fun H locs hP hD hS => ?_)
    obtain ⟨X_27, hP, hD, hf⟩ := st_nm (ws := fun X_27 : Tx => (wX cs a X_27)) ((upd X_19.1 0 (((X_19.1 0) + (1 : Int32))), X_19.2)) hP hD hf
    exact hR _ _ _ _ _ dX4_add_30 hf hP hD hS

theorem in_X4_takeNumber_X4 : ∀ w ∈ wsX40, w ∈ wsX4_takeNumber := by decide +kernel
def f_X4_takeNumber_81 (X : Tx) (K5 : Tx → Option (Int32 × Tx)) : Option (Int32 × Tx) :=
  lett ((upd X.1 3 (((X.1 3) + (1 : Int32))), X.2)) fun X_88 =>
  K5 X_88
set_option maxHeartbeats 4000000 in
set_option maxRecDepth 100000 in
theorem b_X4_takeNumber_81 {p : Program} {l : Launch} {e : Env} {s : State} {m : MethodId} {args : Array Value} {below : List Frame} {meth : Method} {c : Code} {Q : State → Prop} {dC : Nat → ClassId} {dI : Nat → Nat → Nat} {cs : Nat → ClassId} {A : Nat → Prop} {a : Nat → Nat} {res : Int32 × Tx} (C : CallFix p m c cX4_takeNumber 1 s args wsX4_takeNumber RX4) (G : GE dC dI cs s) (hA : ∀ q : Nat, s.heap.size ≤ q → A q) (hR : RTz p l e ({ frames := 0, cells := 0, slots := 0, locals := 0 }) s m args below meth c cX4_takeNumber Q (dC, dI) A (fun u : Tx => (wX cs a u)) res) (X : Tx) {K5 : Tx → Option (Int32 × Tx)} (hK5 : ∀ (X : Tx) (H : Heap) (locs : List Loc) (ls : Array Slot), lv_has ls 1 [(0, .ref (a 0))] → va_P (dC, dI) vwCl (wX cs a X) H → va_D A (wX cs a X) → va_S A s.heap H locs → K5 X = some res → W p l e ({ frames := 0, cells := 0, slots := 0, locals := 0 }) s m args below meth c H locs 0 0 Q (F0 m 5 ls [])) (H : Heap) (locs : List Loc) (ls : Array Slot) (hl : lv_has ls 1 [(0, .ref (a 0))]) (hP : va_P (dC, dI) vwCl (wX cs a X) H) (hD : va_D A (wX cs a X)) (hS : va_S A s.heap H locs) (hf : f_X4_takeNumber_81 X K5 = some res) : W p l e ({ frames := 0, cells := 0, slots := 0, locals := 0 }) s m args below meth c H locs 0 0 Q (F0 m 81 ls []) := by
  obtain ⟨hx, hb, hml, hown, hts⟩ := id C
  obtain ⟨hK, hN⟩ := id G
  unfold f_X4_takeNumber_81 at hf
  refine lv_aload_n hx hb dX4_takeNumber_81 rfl (lv_at hl 0 rfl) ?_
  refine lv_dup hx hb dX4_takeNumber_82 rfl ?_
  refine va_get (D := (dC, dI)) (ci := 4) (v := .int ((X.1 3))) (C := RX4) (T := TX4) (N := 6) hx hb hts in_X4_takeNumber_X4 hown hK hP 0 rfl rfl 4 (by decide) (hts (.fieldLink RX4 19 "BackLoans$Text" "behind" "I") (by decide +kernel)) (fun _ h9 => h9) rfl dX4_takeNumber_83 ?_
  refine lv_iconst (v := 1) hx hb dX4_takeNumber_86 (by decide) ?_
  refine lv_iadd hx hb dX4_takeNumber_87 ?_
  refine va_put (D := (dC, dI)) (ci := 4) (v := .int (((X.1 3) + (1 : Int32)))) (ty := .int) (C := RX4) (T := TX4) (N := 6) hx hb hts in_X4_takeNumber_X4 tyX4 tyX4_ok nmX4 hown hK hP hD hS 0 rfl rfl 4 (by decide) (hts (.fieldLink RX4 19 "BackLoans$Text" "behind" "I") (by decide +kernel)) (fun _ h9 => h9) rfl (by decide +kernel) rfl rfl (Nat.le_of_ble_eq_true rfl) dX4_takeNumber_88 (fun H locs hP hD hS => ?_)
  obtain ⟨X_88, hP, hD, hf⟩ := st_nm (ws := fun X_88 : Tx => (wX cs a X_88)) ((upd X.1 3 (((X.1 3) + (1 : Int32))), X.2)) hP hD hf
  refine lv_goto (tgt := 5) hx hb dX4_takeNumber_91 (by decide) ?_
  exact hK5 X_88 _ _ _ (lv_sub hl [0] rfl) hP hD hS hf
def f_X4_takeNumber_5 (X : Tx) (K5 : Tx → Option (Int32 × Tx)) (K94 : Tx → Option (Int32 × Tx)) : Option (Int32 × Tx) :=
  if (X.1 0) ≤ (X.1 3) then (
    K94 X
  ) else (
    gi ((X.1 3)) 150 <|
    if (X.2 ((X.1 3)).toNatClampNeg) < (48 : Int32) then (
      K94 X
    ) else (
      gi ((X.1 3)) 150 <|
      if (57 : Int32) < (X.2 ((X.1 3)).toNatClampNeg) then (
        K94 X
      ) else (
        if (5 : Int32) ≤ ((X.1 3) - (X.1 2)) then (
          f_X4_takeNumber_81 X K5
        ) else (
          gi ((X.1 3)) 150 <|
          lett ((upd X.1 4 ((((X.1 4) * (10 : Int32)) + ((X.2 ((X.1 3)).toNatClampNeg) - (48 : Int32)))), X.2)) fun X_78 =>
          f_X4_takeNumber_81 X_78 K5
        )
      )
    )
  )
set_option maxHeartbeats 4000000 in
set_option maxRecDepth 100000 in
theorem b_X4_takeNumber_5 {p : Program} {l : Launch} {e : Env} {s : State} {m : MethodId} {args : Array Value} {below : List Frame} {meth : Method} {c : Code} {Q : State → Prop} {dC : Nat → ClassId} {dI : Nat → Nat → Nat} {cs : Nat → ClassId} {A : Nat → Prop} {a : Nat → Nat} {res : Int32 × Tx} (C : CallFix p m c cX4_takeNumber 1 s args wsX4_takeNumber RX4) (G : GE dC dI cs s) (hA : ∀ q : Nat, s.heap.size ≤ q → A q) (hR : RTz p l e ({ frames := 0, cells := 0, slots := 0, locals := 0 }) s m args below meth c cX4_takeNumber Q (dC, dI) A (fun u : Tx => (wX cs a u)) res) (X : Tx) {K5 : Tx → Option (Int32 × Tx)} {K94 : Tx → Option (Int32 × Tx)} (hK5 : ∀ (X : Tx) (H : Heap) (locs : List Loc) (ls : Array Slot), lv_has ls 1 [(0, .ref (a 0))] → va_P (dC, dI) vwCl (wX cs a X) H → va_D A (wX cs a X) → va_S A s.heap H locs → K5 X = some res → W p l e ({ frames := 0, cells := 0, slots := 0, locals := 0 }) s m args below meth c H locs 0 0 Q (F0 m 5 ls [])) (hK94 : ∀ (X : Tx) (H : Heap) (locs : List Loc) (ls : Array Slot), lv_has ls 1 [(0, .ref (a 0))] → va_P (dC, dI) vwCl (wX cs a X) H → va_D A (wX cs a X) → va_S A s.heap H locs → K94 X = some res → W p l e ({ frames := 0, cells := 0, slots := 0, locals := 0 }) s m args below meth c H locs 0 0 Q (F0 m 94 ls [])) (H : Heap) (locs : List Loc) (ls : Array Slot) (hl : lv_has ls 1 [(0, .ref (a 0))]) (hP : va_P (dC, dI) vwCl (wX cs a X) H) (hD : va_D A (wX cs a X)) (hS : va_S A s.heap H locs) (hf : f_X4_takeNumber_5 X K5 K94 = some res) : W p l e ({ frames := 0, cells := 0, slots := 0, locals := 0 }) s m args below meth c H locs 0 0 Q (F0 m 5 ls []) := by
  obtain ⟨hx, hb, hml, hown, hts⟩ := id C
  obtain ⟨hK, hN⟩ := id G
  unfold f_X4_takeNumber_5 at hf
  refine lv_aload_n hx hb dX4_takeNumber_5 rfl (lv_at hl 0 rfl) ?_
  refine va_get (D := (dC, dI)) (ci := 4) (v := .int ((X.1 3))) (C := RX4) (T := TX4) (N := 6) hx hb hts in_X4_takeNumber_X4 hown hK hP 0 rfl rfl 4 (by decide) (hts (.fieldLink RX4 19 "BackLoans$Text" "behind" "I") (by decide +kernel)) (fun _ h9 => h9) rfl dX4_takeNumber_6 ?_
  refine lv_aload_n hx hb dX4_takeNumber_9 rfl (lv_at hl 0 rfl) ?_
  refine va_get (D := (dC, dI)) (ci := 4) (v := .int ((X.1 0))) (C := RX4) (T := TX4) (N := 6) hx hb hts in_X4_takeNumber_X4 hown hK hP 0 rfl rfl 0 (by decide) (hts (.fieldLink RX4 15 "BackLoans$Text" "length" "I") (by decide +kernel)) (fun _ h9 => h9) rfl dX4_takeNumber_10 ?_
  refine lv_icmp_ge (tgt := 94) hx hb dX4_takeNumber_13 (by decide) (fun c1 => ?_) (fun c1 => ?_)
  · replace hf := it_t c1 hf
    exact hK94 X _ _ _ (lv_sub hl [0] rfl) hP hD hS hf
  · replace hf := it_f c1 hf
    refine lv_aload_n hx hb dX4_takeNumber_16 rfl (lv_at hl 0 rfl) ?_
    refine va_get (D := (dC, dI)) (ci := 4) (v := .ref (a 1)) (C := RX4) (T := TX4) (N := 6) hx hb hts in_X4_takeNumber_X4 hown hK hP 0 rfl rfl 1 (by decide) (hts (.fieldLink RX4 9 "BackLoans$Text" "bytes" "[B") (by decide +kernel)) (fun _ h9 => h9) rfl dX4_takeNumber_17 ?_
    refine lv_aload_n hx hb dX4_takeNumber_20 rfl (lv_at hl 0 rfl) ?_
    refine va_get (D := (dC, dI)) (ci := 4) (v := .int ((X.1 3))) (C := RX4) (T := TX4) (N := 6) hx hb hts in_X4_takeNumber_X4 hown hK hP 0 rfl rfl 4 (by decide) (hts (.fieldLink RX4 19 "BackLoans$Text" "behind" "I") (by decide +kernel)) (fun _ h9 => h9) rfl dX4_takeNumber_21 ?_
    obtain ⟨hi2, hf⟩ := gi_e hf
    refine va_bald hx hb hK hP 1 2 rfl rfl hi2 dX4_takeNumber_24 ?_
    refine lv_bipush (v := 48) hx hb dX4_takeNumber_25 (by decide) ?_
    refine lv_icmp_lt (tgt := 94) hx hb dX4_takeNumber_27 (by decide) (fun c3 => ?_) (fun c3 => ?_)
    · replace hf := it_t c3 hf
      exact hK94 X _ _ _ (lv_sub hl [0] rfl) hP hD hS hf
    · replace hf := it_f c3 hf
      refine lv_aload_n hx hb dX4_takeNumber_30 rfl (lv_at hl 0 rfl) ?_
      refine va_get (D := (dC, dI)) (ci := 4) (v := .ref (a 1)) (C := RX4) (T := TX4) (N := 6) hx hb hts in_X4_takeNumber_X4 hown hK hP 0 rfl rfl 1 (by decide) (hts (.fieldLink RX4 9 "BackLoans$Text" "bytes" "[B") (by decide +kernel)) (fun _ h9 => h9) rfl dX4_takeNumber_31 ?_
      refine lv_aload_n hx hb dX4_takeNumber_34 rfl (lv_at hl 0 rfl) ?_
      refine va_get (D := (dC, dI)) (ci := 4) (v := .int ((X.1 3))) (C := RX4) (T := TX4) (N := 6) hx hb hts in_X4_takeNumber_X4 hown hK hP 0 rfl rfl 4 (by decide) (hts (.fieldLink RX4 19 "BackLoans$Text" "behind" "I") (by decide +kernel)) (fun _ h9 => h9) rfl dX4_takeNumber_35 ?_
      obtain ⟨hi4, hf⟩ := gi_e hf
      refine va_bald hx hb hK hP 1 2 rfl rfl hi4 dX4_takeNumber_38 ?_
      refine lv_bipush (v := 57) hx hb dX4_takeNumber_39 (by decide) ?_
      refine lv_icmp_gt (tgt := 94) hx hb dX4_takeNumber_41 (by decide) (fun c5 => ?_) (fun c5 => ?_)
      · replace hf := it_t c5 hf
        exact hK94 X _ _ _ (lv_sub hl [0] rfl) hP hD hS hf
      · replace hf := it_f c5 hf
        refine lv_aload_n hx hb dX4_takeNumber_44 rfl (lv_at hl 0 rfl) ?_
        refine va_get (D := (dC, dI)) (ci := 4) (v := .int ((X.1 3))) (C := RX4) (T := TX4) (N := 6) hx hb hts in_X4_takeNumber_X4 hown hK hP 0 rfl rfl 4 (by decide) (hts (.fieldLink RX4 19 "BackLoans$Text" "behind" "I") (by decide +kernel)) (fun _ h9 => h9) rfl dX4_takeNumber_45 ?_
        refine lv_aload_n hx hb dX4_takeNumber_48 rfl (lv_at hl 0 rfl) ?_
        refine va_get (D := (dC, dI)) (ci := 4) (v := .int ((X.1 2))) (C := RX4) (T := TX4) (N := 6) hx hb hts in_X4_takeNumber_X4 hown hK hP 0 rfl rfl 3 (by decide) (hts (.fieldLink RX4 46 "BackLoans$Text" "start" "I") (by decide +kernel)) (fun _ h9 => h9) rfl dX4_takeNumber_49 ?_
        refine lv_isub hx hb dX4_takeNumber_52 ?_
        refine lv_iconst (v := 5) hx hb dX4_takeNumber_53 (by decide) ?_
        refine lv_icmp_ge (tgt := 81) hx hb dX4_takeNumber_54 (by decide) (fun c6 => ?_) (fun c6 => ?_)
        · replace hf := it_t c6 hf
          exact b_X4_takeNumber_81 C G hA hR X hK5 _ _ _ (lv_sub hl [0] rfl) hP hD hS hf
        · replace hf := it_f c6 hf
          refine lv_aload_n hx hb dX4_takeNumber_57 rfl (lv_at hl 0 rfl) ?_
          refine lv_aload_n hx hb dX4_takeNumber_58 rfl (lv_at hl 0 rfl) ?_
          refine va_get (D := (dC, dI)) (ci := 4) (v := .int ((X.1 4))) (C := RX4) (T := TX4) (N := 6) hx hb hts in_X4_takeNumber_X4 hown hK hP 0 rfl rfl 5 (by decide) (hts (.fieldLink RX4 83 "BackLoans$Text" "value" "I") (by decide +kernel)) (fun _ h9 => h9) rfl dX4_takeNumber_59 ?_
          refine lv_bipush (v := 10) hx hb dX4_takeNumber_62 (by decide) ?_
          refine lv_imul hx hb dX4_takeNumber_64 ?_
          refine lv_aload_n hx hb dX4_takeNumber_65 rfl (lv_at hl 0 rfl) ?_
          refine va_get (D := (dC, dI)) (ci := 4) (v := .ref (a 1)) (C := RX4) (T := TX4) (N := 6) hx hb hts in_X4_takeNumber_X4 hown hK hP 0 rfl rfl 1 (by decide) (hts (.fieldLink RX4 9 "BackLoans$Text" "bytes" "[B") (by decide +kernel)) (fun _ h9 => h9) rfl dX4_takeNumber_66 ?_
          refine lv_aload_n hx hb dX4_takeNumber_69 rfl (lv_at hl 0 rfl) ?_
          refine va_get (D := (dC, dI)) (ci := 4) (v := .int ((X.1 3))) (C := RX4) (T := TX4) (N := 6) hx hb hts in_X4_takeNumber_X4 hown hK hP 0 rfl rfl 4 (by decide) (hts (.fieldLink RX4 19 "BackLoans$Text" "behind" "I") (by decide +kernel)) (fun _ h9 => h9) rfl dX4_takeNumber_70 ?_
          obtain ⟨hi7, hf⟩ := gi_e hf
          refine va_bald hx hb hK hP 1 2 rfl rfl hi7 dX4_takeNumber_73 ?_
          refine lv_bipush (v := 48) hx hb dX4_takeNumber_74 (by decide) ?_
          refine lv_isub hx hb dX4_takeNumber_76 ?_
          refine lv_iadd hx hb dX4_takeNumber_77 ?_
          refine va_put (D := (dC, dI)) (ci := 4) (v := .int ((((X.1 4) * (10 : Int32)) + ((X.2 ((X.1 3)).toNatClampNeg) - (48 : Int32))))) (ty := .int) (C := RX4) (T := TX4) (N := 6) hx hb hts in_X4_takeNumber_X4 tyX4 tyX4_ok nmX4 hown hK hP hD hS 0 rfl rfl 5 (by decide) (hts (.fieldLink RX4 83 "BackLoans$Text" "value" "I") (by decide +kernel)) (fun _ h9 => h9) rfl (by decide +kernel) rfl rfl (Nat.le_of_ble_eq_true rfl) dX4_takeNumber_78 (fun H locs hP hD hS => ?_)
          obtain ⟨X_78, hP, hD, hf⟩ := st_nm (ws := fun X_78 : Tx => (wX cs a X_78)) ((upd X.1 4 ((((X.1 4) * (10 : Int32)) + ((X.2 ((X.1 3)).toNatClampNeg) - (48 : Int32)))), X.2)) hP hD hf
          exact b_X4_takeNumber_81 C G hA hR X_78 hK5 _ _ _ (lv_sub hl [0] rfl) hP hD hS hf
def l_X4_takeNumber_5  (K94 : Tx → Option (Int32 × Tx)) (n : Nat) (X : Tx) : Option (Int32 × Tx) := itr (fun (k : Tx → Option (Int32 × Tx)) (z : Tx) => f_X4_takeNumber_5 z (fun X => k X) K94) n X
set_option maxHeartbeats 4000000 in
set_option maxRecDepth 100000 in
theorem w_X4_takeNumber_5 {p : Program} {l : Launch} {e : Env} {s : State} {m : MethodId} {args : Array Value} {below : List Frame} {meth : Method} {c : Code} {Q : State → Prop} {dC : Nat → ClassId} {dI : Nat → Nat → Nat} {cs : Nat → ClassId} {A : Nat → Prop} {a : Nat → Nat} {res : Int32 × Tx} (C : CallFix p m c cX4_takeNumber 1 s args wsX4_takeNumber RX4) (G : GE dC dI cs s) (hA : ∀ q : Nat, s.heap.size ≤ q → A q) (hR : RTz p l e ({ frames := 0, cells := 0, slots := 0, locals := 0 }) s m args below meth c cX4_takeNumber Q (dC, dI) A (fun u : Tx => (wX cs a u)) res)  {K94 : Tx → Option (Int32 × Tx)} (hK94 : ∀ (X : Tx) (H : Heap) (locs : List Loc) (ls : Array Slot), lv_has ls 1 [(0, .ref (a 0))] → va_P (dC, dI) vwCl (wX cs a X) H → va_D A (wX cs a X) → va_S A s.heap H locs → K94 X = some res → W p l e ({ frames := 0, cells := 0, slots := 0, locals := 0 }) s m args below meth c H locs 0 0 Q (F0 m 94 ls [])) : ∀ (n : Nat) (X : Tx) (H : Heap) (locs : List Loc) (ls : Array Slot), lv_has ls 1 [(0, .ref (a 0))] → va_P (dC, dI) vwCl (wX cs a X) H → va_D A (wX cs a X) → va_S A s.heap H locs → l_X4_takeNumber_5 K94 n X = some res → W p l e ({ frames := 0, cells := 0, slots := 0, locals := 0 }) s m args below meth c H locs 0 0 Q (F0 m 5 ls []) := by
  intro n
  induction n with
  | zero => intro X H locs ls hl hP hD hS hf; exact absurd hf (by simp [l_X4_takeNumber_5, itr])
  | succ n ih => intro X H locs ls hl hP hD hS hf; exact b_X4_takeNumber_5 C G hA hR X (K5 := fun X => l_X4_takeNumber_5 K94 n X) (fun X H locs ls hl hP hD hS hf => ih X H locs ls hl hP hD hS hf) hK94 H locs ls hl hP hD hS hf
def f_X4_takeNumber_113 (s1 : Int32) (X : Tx)  : Option (Int32 × Tx) :=
  lett ((upd X.1 1 (s1), X.2)) fun X_113 =>
  if (X_113.1 3) ≤ (X_113.1 2) then (
    some ((0 : Int32), X_113)
  ) else (
    some ((1 : Int32), X_113)
  )
set_option maxHeartbeats 4000000 in
set_option maxRecDepth 100000 in
theorem b_X4_takeNumber_113 {p : Program} {l : Launch} {e : Env} {s : State} {m : MethodId} {args : Array Value} {below : List Frame} {meth : Method} {c : Code} {Q : State → Prop} {dC : Nat → ClassId} {dI : Nat → Nat → Nat} {cs : Nat → ClassId} {A : Nat → Prop} {a : Nat → Nat} {res : Int32 × Tx} (C : CallFix p m c cX4_takeNumber 1 s args wsX4_takeNumber RX4) (G : GE dC dI cs s) (hA : ∀ q : Nat, s.heap.size ≤ q → A q) (hR : RTz p l e ({ frames := 0, cells := 0, slots := 0, locals := 0 }) s m args below meth c cX4_takeNumber Q (dC, dI) A (fun u : Tx => (wX cs a u)) res) (s1 : Int32) (X : Tx)   (H : Heap) (locs : List Loc) (ls : Array Slot) (hl : lv_has ls 1 [(0, .ref (a 0))]) (hP : va_P (dC, dI) vwCl (wX cs a X) H) (hD : va_D A (wX cs a X)) (hS : va_S A s.heap H locs) (hf : f_X4_takeNumber_113 s1 X = some res) : W p l e ({ frames := 0, cells := 0, slots := 0, locals := 0 }) s m args below meth c H locs 0 0 Q (F0 m 113 ls [.int (s1), .ref (a 0)]) := by
  obtain ⟨hx, hb, hml, hown, hts⟩ := id C
  obtain ⟨hK, hN⟩ := id G
  unfold f_X4_takeNumber_113 at hf
  refine va_put (D := (dC, dI)) (ci := 4) (v := .int (s1)) (ty := .int) (C := RX4) (T := TX4) (N := 6) hx hb hts in_X4_takeNumber_X4 tyX4 tyX4_ok nmX4 hown hK hP hD hS 0 rfl rfl 2 (by decide) (hts (.fieldLink RX4 30 "BackLoans$Text" "token" "I") (by decide +kernel)) (fun _ h9 => h9) rfl (by decide +kernel) rfl rfl (Nat.le_of_ble_eq_true rfl) dX4_takeNumber_113 (fun H locs hP hD hS => ?_)
  obtain ⟨X_113, hP, hD, hf⟩ := st_nm (ws := fun X_113 : Tx => (wX cs a X_113)) ((upd X.1 1 (s1), X.2)) hP hD hf
  refine lv_aload_n hx hb dX4_takeNumber_116 rfl (lv_at hl 0 rfl) ?_
  refine va_get (D := (dC, dI)) (ci := 4) (v := .int ((X_113.1 3))) (C := RX4) (T := TX4) (N := 6) hx hb hts in_X4_takeNumber_X4 hown hK hP 0 rfl rfl 4 (by decide) (hts (.fieldLink RX4 19 "BackLoans$Text" "behind" "I") (by decide +kernel)) (fun _ h9 => h9) rfl dX4_takeNumber_117 ?_
  refine lv_aload_n hx hb dX4_takeNumber_120 rfl (lv_at hl 0 rfl) ?_
  refine va_get (D := (dC, dI)) (ci := 4) (v := .int ((X_113.1 2))) (C := RX4) (T := TX4) (N := 6) hx hb hts in_X4_takeNumber_X4 hown hK hP 0 rfl rfl 3 (by decide) (hts (.fieldLink RX4 46 "BackLoans$Text" "start" "I") (by decide +kernel)) (fun _ h9 => h9) rfl dX4_takeNumber_121 ?_
  refine lv_icmp_le (tgt := 131) hx hb dX4_takeNumber_124 (by decide) (fun c1 => ?_) (fun c1 => ?_)
  · replace hf := it_t c1 hf
    refine lv_iconst (v := 0) hx hb dX4_takeNumber_131 (by decide) ?_
    exact hR _ _ _ _ _ _ dX4_takeNumber_132 (by decide) hf hP hD hS
  · replace hf := it_f c1 hf
    refine lv_iconst (v := 1) hx hb dX4_takeNumber_127 (by decide) ?_
    refine lv_goto (tgt := 132) hx hb dX4_takeNumber_128 (by decide) ?_
    exact hR _ _ _ _ _ _ dX4_takeNumber_132 (by decide) hf hP hD hS
def f_X4_takeNumber_94 (X : Tx)  : Option (Int32 × Tx) :=
  if (5 : Int32) < ((X.1 3) - (X.1 2)) then (
    f_X4_takeNumber_113 (4 : Int32) X
  ) else (
    f_X4_takeNumber_113 (2 : Int32) X
  )
set_option maxHeartbeats 4000000 in
set_option maxRecDepth 100000 in
theorem b_X4_takeNumber_94 {p : Program} {l : Launch} {e : Env} {s : State} {m : MethodId} {args : Array Value} {below : List Frame} {meth : Method} {c : Code} {Q : State → Prop} {dC : Nat → ClassId} {dI : Nat → Nat → Nat} {cs : Nat → ClassId} {A : Nat → Prop} {a : Nat → Nat} {res : Int32 × Tx} (C : CallFix p m c cX4_takeNumber 1 s args wsX4_takeNumber RX4) (G : GE dC dI cs s) (hA : ∀ q : Nat, s.heap.size ≤ q → A q) (hR : RTz p l e ({ frames := 0, cells := 0, slots := 0, locals := 0 }) s m args below meth c cX4_takeNumber Q (dC, dI) A (fun u : Tx => (wX cs a u)) res) (X : Tx)   (H : Heap) (locs : List Loc) (ls : Array Slot) (hl : lv_has ls 1 [(0, .ref (a 0))]) (hP : va_P (dC, dI) vwCl (wX cs a X) H) (hD : va_D A (wX cs a X)) (hS : va_S A s.heap H locs) (hf : f_X4_takeNumber_94 X = some res) : W p l e ({ frames := 0, cells := 0, slots := 0, locals := 0 }) s m args below meth c H locs 0 0 Q (F0 m 94 ls []) := by
  obtain ⟨hx, hb, hml, hown, hts⟩ := id C
  obtain ⟨hK, hN⟩ := id G
  unfold f_X4_takeNumber_94 at hf
  refine lv_aload_n hx hb dX4_takeNumber_94 rfl (lv_at hl 0 rfl) ?_
  refine lv_aload_n hx hb dX4_takeNumber_95 rfl (lv_at hl 0 rfl) ?_
  refine va_get (D := (dC, dI)) (ci := 4) (v := .int ((X.1 3))) (C := RX4) (T := TX4) (N := 6) hx hb hts in_X4_takeNumber_X4 hown hK hP 0 rfl rfl 4 (by decide) (hts (.fieldLink RX4 19 "BackLoans$Text" "behind" "I") (by decide +kernel)) (fun _ h9 => h9) rfl dX4_takeNumber_96 ?_
  refine lv_aload_n hx hb dX4_takeNumber_99 rfl (lv_at hl 0 rfl) ?_
  refine va_get (D := (dC, dI)) (ci := 4) (v := .int ((X.1 2))) (C := RX4) (T := TX4) (N := 6) hx hb hts in_X4_takeNumber_X4 hown hK hP 0 rfl rfl 3 (by decide) (hts (.fieldLink RX4 46 "BackLoans$Text" "start" "I") (by decide +kernel)) (fun _ h9 => h9) rfl dX4_takeNumber_100 ?_
  refine lv_isub hx hb dX4_takeNumber_103 ?_
  refine lv_iconst (v := 5) hx hb dX4_takeNumber_104 (by decide) ?_
  refine lv_icmp_gt (tgt := 112) hx hb dX4_takeNumber_105 (by decide) (fun c1 => ?_) (fun c1 => ?_)
  · replace hf := it_t c1 hf
    refine lv_iconst (v := 4) hx hb dX4_takeNumber_112 (by decide) ?_
    exact b_X4_takeNumber_113 C G hA hR (4 : Int32) X _ _ _ (lv_sub hl [0] rfl) hP hD hS hf
  · replace hf := it_f c1 hf
    refine lv_iconst (v := 2) hx hb dX4_takeNumber_108 (by decide) ?_
    refine lv_goto (tgt := 113) hx hb dX4_takeNumber_109 (by decide) ?_
    exact b_X4_takeNumber_113 C G hA hR (2 : Int32) X _ _ _ (lv_sub hl [0] rfl) hP hD hS hf
def f_X4_takeNumber  (X : Tx) : Option (Int32 × Tx) :=
  lett ((upd X.1 4 ((0 : Int32)), X.2)) fun X_2 =>
  l_X4_takeNumber_5 (fun Xz => f_X4_takeNumber_94 Xz) FU X_2
set_option maxHeartbeats 4000000 in
set_option maxRecDepth 100000 in
theorem c_X4_takeNumber (l : Launch) (dC : Nat → ClassId) (dI : Nat → Nat → Nat) (cs : Nat → ClassId) (a : Nat → Nat) (sz : Nat) (X : Tx)  (res : Int32 × Tx) (hf : f_X4_takeNumber X = some res) : Met l yX4_takeNumber wsX4_takeNumber ({ frames := 0, cells := 0, slots := 0, locals := 0 }) (va_Pc [.ref (a 0)] (fun U => U.heap.size = sz ∧ va_P (dC, dI) vwCl (wX cs a X) U.heap ∧ GE dC dI cs U ∧ va_D (fun _ => True) (wX cs a X))) (va_Qi (fun r (u : Tx) => r = res.1 ∧ u = res.2 ∧ narrow .boolean (.int r) = .int r) (fun u t => va_P (dC, dI) vwCl ((fun u : Tx => (wX cs a u)) u) t.heap ∧ va_D (va_A (wX cs a X) sz) ((fun u : Tx => (wX cs a u)) u)) (va_A (wX cs a X) sz)) 0 0 (va_A (wX cs a X) sz) := by
  refine Met.ofW (cc := cX4_takeNumber) (maxL := 1) (ret := (some .boolean)) (by decide) rfl ?_
  intro p e s m args below meth c s₁ B hml hv
  obtain ⟨rfl, hsz, hP, G, hD0⟩ := hv
  have hts := atoms_spec (ws := wsX4_takeNumber) B.pre
  have hown : s.vm.findClass RX4 = some m.cls := findClass_of_methodNamed B.named
  have hlocks := B.notSynchronized
  have hx := B.exec
  have hb := B.bytes
  have hr := B.returns
  have C : CallFix p m c cX4_takeNumber 1 s _ wsX4_takeNumber RX4 := ⟨hx, hb, hml, hown, hts⟩
  obtain ⟨hK, hN⟩ := id G
  subst hsz
  have hD := hD0.self (sz := s.heap.size)
  generalize hAe : va_A (wX cs a X) s.heap.size = A at hD ⊢
  have hA : ∀ q : Nat, s.heap.size ≤ q → A q := fun q h => by rw [← hAe]; exact Or.inr h
  have hS : va_S A s.heap s.heap [] := va_S.rf
  have hR : RTz p l e ({ frames := 0, cells := 0, slots := 0, locals := 0 }) s m ([.ref (a 0)] : List Value).toArray below meth c cX4_takeNumber (MQ below (va_Qi (fun r (u : Tx) => r = res.1 ∧ u = res.2 ∧ narrow .boolean (.int r) = .int r) (fun u t => va_P (dC, dI) vwCl ((fun u : Tx => (wX cs a u)) u) t.heap ∧ va_D A ((fun u : Tx => (wX cs a u)) u)) A) ([.ref (a 0)] : List Value).toArray s 0 0 A) (dC, dI) A (fun u : Tx => (wX cs a u)) res := fun H locs pc ls r u dd hn h hP hD hS => W.zret hx hb hr hn (fun t ht hW => ⟨⟨r, u, rfl, by cases h; exact ⟨rfl, rfl, hn⟩, by rw [ht]; exact hP, hD⟩, hS.F ht⟩) hS.2.2 dd
  have hl := lv_entry ([.ref (a 0)]) (n := 1) (Nat.le_of_ble_eq_true rfl)
  rw [lg_entry_eq]
  generalize (lg_sl ([.ref (a 0)]) ++ List.replicate (1 - (lg_sl ([.ref (a 0)])).length) Slot.unset).toArray = ls at hl ⊢
  have hl : lv_has ls 1 [(0, .ref (a 0))] := hl
  unfold f_X4_takeNumber at hf
  refine lv_aload_n hx hb dX4_takeNumber_0 rfl (lv_at hl 0 rfl) ?_
  refine lv_iconst (v := 0) hx hb dX4_takeNumber_1 (by decide) ?_
  refine va_put (D := (dC, dI)) (ci := 4) (v := .int ((0 : Int32))) (ty := .int) (C := RX4) (T := TX4) (N := 6) hx hb hts in_X4_takeNumber_X4 tyX4 tyX4_ok nmX4 hown hK hP hD hS 0 rfl rfl 5 (by decide) (hts (.fieldLink RX4 83 "BackLoans$Text" "value" "I") (by decide +kernel)) (fun _ h9 => h9) rfl (by decide +kernel) rfl rfl (Nat.le_of_ble_eq_true rfl) dX4_takeNumber_2 (fun H locs hP hD hS => ?_)
  obtain ⟨X_2, hP, hD, hf⟩ := st_nm (ws := fun X_2 : Tx => (wX cs a X_2)) ((upd X.1 4 ((0 : Int32)), X.2)) hP hD hf
  exact w_X4_takeNumber_5 C G hA hR (fun Xz H locs ls hl hP hD hS hf => b_X4_takeNumber_94 C G hA hR Xz _ _ _ hl hP hD hS hf) FU X_2 _ _ _ (lv_sub hl [0] rfl) hP hD hS hf

theorem in_X4_takeWord_X4 : ∀ w ∈ wsX40, w ∈ wsX4_takeWord := by decide +kernel
def f_X4_takeWord_5 (X : Tx) (K5 : Tx → Option (Int32 × Tx)) (K57 : Tx → Option (Int32 × Tx)) : Option (Int32 × Tx) :=
  if (X.1 0) ≤ (X.1 3) then (
    K57 X
  ) else (
    gi ((X.1 3)) 150 <|
    if (X.2 ((X.1 3)).toNatClampNeg) < (97 : Int32) then (
      K57 X
    ) else (
      gi ((X.1 3)) 150 <|
      if (122 : Int32) < (X.2 ((X.1 3)).toNatClampNeg) then (
        K57 X
      ) else (
        lett ((upd X.1 3 (((X.1 3) + (1 : Int32))), X.2)) fun X_51 =>
        K5 X_51
      )
    )
  )
set_option maxHeartbeats 4000000 in
set_option maxRecDepth 100000 in
theorem b_X4_takeWord_5 {p : Program} {l : Launch} {e : Env} {s : State} {m : MethodId} {args : Array Value} {below : List Frame} {meth : Method} {c : Code} {Q : State → Prop} {dC : Nat → ClassId} {dI : Nat → Nat → Nat} {cs : Nat → ClassId} {A : Nat → Prop} {a : Nat → Nat} {res : Int32 × Tx} (C : CallFix p m c cX4_takeWord 1 s args wsX4_takeWord RX4) (G : GE dC dI cs s) (hA : ∀ q : Nat, s.heap.size ≤ q → A q) (hR : RTz p l e ({ frames := 0, cells := 0, slots := 0, locals := 0 }) s m args below meth c cX4_takeWord Q (dC, dI) A (fun u : Tx => (wX cs a u)) res) (X : Tx) {K5 : Tx → Option (Int32 × Tx)} {K57 : Tx → Option (Int32 × Tx)} (hK5 : ∀ (X : Tx) (H : Heap) (locs : List Loc) (ls : Array Slot), lv_has ls 1 [(0, .ref (a 0))] → va_P (dC, dI) vwCl (wX cs a X) H → va_D A (wX cs a X) → va_S A s.heap H locs → K5 X = some res → W p l e ({ frames := 0, cells := 0, slots := 0, locals := 0 }) s m args below meth c H locs 0 0 Q (F0 m 5 ls [])) (hK57 : ∀ (X : Tx) (H : Heap) (locs : List Loc) (ls : Array Slot), lv_has ls 1 [(0, .ref (a 0))] → va_P (dC, dI) vwCl (wX cs a X) H → va_D A (wX cs a X) → va_S A s.heap H locs → K57 X = some res → W p l e ({ frames := 0, cells := 0, slots := 0, locals := 0 }) s m args below meth c H locs 0 0 Q (F0 m 57 ls [])) (H : Heap) (locs : List Loc) (ls : Array Slot) (hl : lv_has ls 1 [(0, .ref (a 0))]) (hP : va_P (dC, dI) vwCl (wX cs a X) H) (hD : va_D A (wX cs a X)) (hS : va_S A s.heap H locs) (hf : f_X4_takeWord_5 X K5 K57 = some res) : W p l e ({ frames := 0, cells := 0, slots := 0, locals := 0 }) s m args below meth c H locs 0 0 Q (F0 m 5 ls []) := by
  obtain ⟨hx, hb, hml, hown, hts⟩ := id C
  obtain ⟨hK, hN⟩ := id G
  unfold f_X4_takeWord_5 at hf
  refine lv_aload_n hx hb dX4_takeWord_5 rfl (lv_at hl 0 rfl) ?_
  refine va_get (D := (dC, dI)) (ci := 4) (v := .int ((X.1 3))) (C := RX4) (T := TX4) (N := 6) hx hb hts in_X4_takeWord_X4 hown hK hP 0 rfl rfl 4 (by decide) (hts (.fieldLink RX4 19 "BackLoans$Text" "behind" "I") (by decide +kernel)) (fun _ h9 => h9) rfl dX4_takeWord_6 ?_
  refine lv_aload_n hx hb dX4_takeWord_9 rfl (lv_at hl 0 rfl) ?_
  refine va_get (D := (dC, dI)) (ci := 4) (v := .int ((X.1 0))) (C := RX4) (T := TX4) (N := 6) hx hb hts in_X4_takeWord_X4 hown hK hP 0 rfl rfl 0 (by decide) (hts (.fieldLink RX4 15 "BackLoans$Text" "length" "I") (by decide +kernel)) (fun _ h9 => h9) rfl dX4_takeWord_10 ?_
  refine lv_icmp_ge (tgt := 57) hx hb dX4_takeWord_13 (by decide) (fun c1 => ?_) (fun c1 => ?_)
  · replace hf := it_t c1 hf
    exact hK57 X _ _ _ (lv_sub hl [0] rfl) hP hD hS hf
  · replace hf := it_f c1 hf
    refine lv_aload_n hx hb dX4_takeWord_16 rfl (lv_at hl 0 rfl) ?_
    refine va_get (D := (dC, dI)) (ci := 4) (v := .ref (a 1)) (C := RX4) (T := TX4) (N := 6) hx hb hts in_X4_takeWord_X4 hown hK hP 0 rfl rfl 1 (by decide) (hts (.fieldLink RX4 9 "BackLoans$Text" "bytes" "[B") (by decide +kernel)) (fun _ h9 => h9) rfl dX4_takeWord_17 ?_
    refine lv_aload_n hx hb dX4_takeWord_20 rfl (lv_at hl 0 rfl) ?_
    refine va_get (D := (dC, dI)) (ci := 4) (v := .int ((X.1 3))) (C := RX4) (T := TX4) (N := 6) hx hb hts in_X4_takeWord_X4 hown hK hP 0 rfl rfl 4 (by decide) (hts (.fieldLink RX4 19 "BackLoans$Text" "behind" "I") (by decide +kernel)) (fun _ h9 => h9) rfl dX4_takeWord_21 ?_
    obtain ⟨hi2, hf⟩ := gi_e hf
    refine va_bald hx hb hK hP 1 2 rfl rfl hi2 dX4_takeWord_24 ?_
    refine lv_bipush (v := 97) hx hb dX4_takeWord_25 (by decide) ?_
    refine lv_icmp_lt (tgt := 57) hx hb dX4_takeWord_27 (by decide) (fun c3 => ?_) (fun c3 => ?_)
    · replace hf := it_t c3 hf
      exact hK57 X _ _ _ (lv_sub hl [0] rfl) hP hD hS hf
    · replace hf := it_f c3 hf
      refine lv_aload_n hx hb dX4_takeWord_30 rfl (lv_at hl 0 rfl) ?_
      refine va_get (D := (dC, dI)) (ci := 4) (v := .ref (a 1)) (C := RX4) (T := TX4) (N := 6) hx hb hts in_X4_takeWord_X4 hown hK hP 0 rfl rfl 1 (by decide) (hts (.fieldLink RX4 9 "BackLoans$Text" "bytes" "[B") (by decide +kernel)) (fun _ h9 => h9) rfl dX4_takeWord_31 ?_
      refine lv_aload_n hx hb dX4_takeWord_34 rfl (lv_at hl 0 rfl) ?_
      refine va_get (D := (dC, dI)) (ci := 4) (v := .int ((X.1 3))) (C := RX4) (T := TX4) (N := 6) hx hb hts in_X4_takeWord_X4 hown hK hP 0 rfl rfl 4 (by decide) (hts (.fieldLink RX4 19 "BackLoans$Text" "behind" "I") (by decide +kernel)) (fun _ h9 => h9) rfl dX4_takeWord_35 ?_
      obtain ⟨hi4, hf⟩ := gi_e hf
      refine va_bald hx hb hK hP 1 2 rfl rfl hi4 dX4_takeWord_38 ?_
      refine lv_bipush (v := 122) hx hb dX4_takeWord_39 (by decide) ?_
      refine lv_icmp_gt (tgt := 57) hx hb dX4_takeWord_41 (by decide) (fun c5 => ?_) (fun c5 => ?_)
      · replace hf := it_t c5 hf
        exact hK57 X _ _ _ (lv_sub hl [0] rfl) hP hD hS hf
      · replace hf := it_f c5 hf
        refine lv_aload_n hx hb dX4_takeWord_44 rfl (lv_at hl 0 rfl) ?_
        refine lv_dup hx hb dX4_takeWord_45 rfl ?_
        refine va_get (D := (dC, dI)) (ci := 4) (v := .int ((X.1 3))) (C := RX4) (T := TX4) (N := 6) hx hb hts in_X4_takeWord_X4 hown hK hP 0 rfl rfl 4 (by decide) (hts (.fieldLink RX4 19 "BackLoans$Text" "behind" "I") (by decide +kernel)) (fun _ h9 => h9) rfl dX4_takeWord_46 ?_
        refine lv_iconst (v := 1) hx hb dX4_takeWord_49 (by decide) ?_
        refine lv_iadd hx hb dX4_takeWord_50 ?_
        refine va_put (D := (dC, dI)) (ci := 4) (v := .int (((X.1 3) + (1 : Int32)))) (ty := .int) (C := RX4) (T := TX4) (N := 6) hx hb hts in_X4_takeWord_X4 tyX4 tyX4_ok nmX4 hown hK hP hD hS 0 rfl rfl 4 (by decide) (hts (.fieldLink RX4 19 "BackLoans$Text" "behind" "I") (by decide +kernel)) (fun _ h9 => h9) rfl (by decide +kernel) rfl rfl (Nat.le_of_ble_eq_true rfl) dX4_takeWord_51 (fun H locs hP hD hS => ?_)
        obtain ⟨X_51, hP, hD, hf⟩ := st_nm (ws := fun X_51 : Tx => (wX cs a X_51)) ((upd X.1 3 (((X.1 3) + (1 : Int32))), X.2)) hP hD hf
        refine lv_goto (tgt := 5) hx hb dX4_takeWord_54 (by decide) ?_
        exact hK5 X_51 _ _ _ (lv_sub hl [0] rfl) hP hD hS hf
def l_X4_takeWord_5  (K57 : Tx → Option (Int32 × Tx)) (n : Nat) (X : Tx) : Option (Int32 × Tx) := itr (fun (k : Tx → Option (Int32 × Tx)) (z : Tx) => f_X4_takeWord_5 z (fun X => k X) K57) n X
set_option maxHeartbeats 4000000 in
set_option maxRecDepth 100000 in
theorem w_X4_takeWord_5 {p : Program} {l : Launch} {e : Env} {s : State} {m : MethodId} {args : Array Value} {below : List Frame} {meth : Method} {c : Code} {Q : State → Prop} {dC : Nat → ClassId} {dI : Nat → Nat → Nat} {cs : Nat → ClassId} {A : Nat → Prop} {a : Nat → Nat} {res : Int32 × Tx} (C : CallFix p m c cX4_takeWord 1 s args wsX4_takeWord RX4) (G : GE dC dI cs s) (hA : ∀ q : Nat, s.heap.size ≤ q → A q) (hR : RTz p l e ({ frames := 0, cells := 0, slots := 0, locals := 0 }) s m args below meth c cX4_takeWord Q (dC, dI) A (fun u : Tx => (wX cs a u)) res)  {K57 : Tx → Option (Int32 × Tx)} (hK57 : ∀ (X : Tx) (H : Heap) (locs : List Loc) (ls : Array Slot), lv_has ls 1 [(0, .ref (a 0))] → va_P (dC, dI) vwCl (wX cs a X) H → va_D A (wX cs a X) → va_S A s.heap H locs → K57 X = some res → W p l e ({ frames := 0, cells := 0, slots := 0, locals := 0 }) s m args below meth c H locs 0 0 Q (F0 m 57 ls [])) : ∀ (n : Nat) (X : Tx) (H : Heap) (locs : List Loc) (ls : Array Slot), lv_has ls 1 [(0, .ref (a 0))] → va_P (dC, dI) vwCl (wX cs a X) H → va_D A (wX cs a X) → va_S A s.heap H locs → l_X4_takeWord_5 K57 n X = some res → W p l e ({ frames := 0, cells := 0, slots := 0, locals := 0 }) s m args below meth c H locs 0 0 Q (F0 m 5 ls []) := by
  intro n
  induction n with
  | zero => intro X H locs ls hl hP hD hS hf; exact absurd hf (by simp [l_X4_takeWord_5, itr])
  | succ n ih => intro X H locs ls hl hP hD hS hf; exact b_X4_takeWord_5 C G hA hR X (K5 := fun X => l_X4_takeWord_5 K57 n X) (fun X H locs ls hl hP hD hS hf => ih X H locs ls hl hP hD hS hf) hK57 H locs ls hl hP hD hS hf
def f_X4_takeWord_57 (X : Tx)  : Option (Int32 × Tx) :=
  if (X.1 3) ≤ (X.1 2) then (
    some ((0 : Int32), X)
  ) else (
    some ((1 : Int32), X)
  )
set_option maxHeartbeats 4000000 in
set_option maxRecDepth 100000 in
theorem b_X4_takeWord_57 {p : Program} {l : Launch} {e : Env} {s : State} {m : MethodId} {args : Array Value} {below : List Frame} {meth : Method} {c : Code} {Q : State → Prop} {dC : Nat → ClassId} {dI : Nat → Nat → Nat} {cs : Nat → ClassId} {A : Nat → Prop} {a : Nat → Nat} {res : Int32 × Tx} (C : CallFix p m c cX4_takeWord 1 s args wsX4_takeWord RX4) (G : GE dC dI cs s) (hA : ∀ q : Nat, s.heap.size ≤ q → A q) (hR : RTz p l e ({ frames := 0, cells := 0, slots := 0, locals := 0 }) s m args below meth c cX4_takeWord Q (dC, dI) A (fun u : Tx => (wX cs a u)) res) (X : Tx)   (H : Heap) (locs : List Loc) (ls : Array Slot) (hl : lv_has ls 1 [(0, .ref (a 0))]) (hP : va_P (dC, dI) vwCl (wX cs a X) H) (hD : va_D A (wX cs a X)) (hS : va_S A s.heap H locs) (hf : f_X4_takeWord_57 X = some res) : W p l e ({ frames := 0, cells := 0, slots := 0, locals := 0 }) s m args below meth c H locs 0 0 Q (F0 m 57 ls []) := by
  obtain ⟨hx, hb, hml, hown, hts⟩ := id C
  obtain ⟨hK, hN⟩ := id G
  unfold f_X4_takeWord_57 at hf
  refine lv_aload_n hx hb dX4_takeWord_57 rfl (lv_at hl 0 rfl) ?_
  refine va_get (D := (dC, dI)) (ci := 4) (v := .int ((X.1 3))) (C := RX4) (T := TX4) (N := 6) hx hb hts in_X4_takeWord_X4 hown hK hP 0 rfl rfl 4 (by decide) (hts (.fieldLink RX4 19 "BackLoans$Text" "behind" "I") (by decide +kernel)) (fun _ h9 => h9) rfl dX4_takeWord_58 ?_
  refine lv_aload_n hx hb dX4_takeWord_61 rfl (lv_at hl 0 rfl) ?_
  refine va_get (D := (dC, dI)) (ci := 4) (v := .int ((X.1 2))) (C := RX4) (T := TX4) (N := 6) hx hb hts in_X4_takeWord_X4 hown hK hP 0 rfl rfl 3 (by decide) (hts (.fieldLink RX4 46 "BackLoans$Text" "start" "I") (by decide +kernel)) (fun _ h9 => h9) rfl dX4_takeWord_62 ?_
  refine lv_icmp_le (tgt := 72) hx hb dX4_takeWord_65 (by decide) (fun c1 => ?_) (fun c1 => ?_)
  · replace hf := it_t c1 hf
    refine lv_iconst (v := 0) hx hb dX4_takeWord_72 (by decide) ?_
    exact hR _ _ _ _ _ _ dX4_takeWord_73 (by decide) hf hP hD hS
  · replace hf := it_f c1 hf
    refine lv_iconst (v := 1) hx hb dX4_takeWord_68 (by decide) ?_
    refine lv_goto (tgt := 73) hx hb dX4_takeWord_69 (by decide) ?_
    exact hR _ _ _ _ _ _ dX4_takeWord_73 (by decide) hf hP hD hS
def f_X4_takeWord  (X : Tx) : Option (Int32 × Tx) :=
  lett ((upd X.1 1 ((1 : Int32)), X.2)) fun X_2 =>
  l_X4_takeWord_5 (fun Xz => f_X4_takeWord_57 Xz) FU X_2
set_option maxHeartbeats 4000000 in
set_option maxRecDepth 100000 in
theorem c_X4_takeWord (l : Launch) (dC : Nat → ClassId) (dI : Nat → Nat → Nat) (cs : Nat → ClassId) (a : Nat → Nat) (sz : Nat) (X : Tx)  (res : Int32 × Tx) (hf : f_X4_takeWord X = some res) : Met l yX4_takeWord wsX4_takeWord ({ frames := 0, cells := 0, slots := 0, locals := 0 }) (va_Pc [.ref (a 0)] (fun U => U.heap.size = sz ∧ va_P (dC, dI) vwCl (wX cs a X) U.heap ∧ GE dC dI cs U ∧ va_D (fun _ => True) (wX cs a X))) (va_Qi (fun r (u : Tx) => r = res.1 ∧ u = res.2 ∧ narrow .boolean (.int r) = .int r) (fun u t => va_P (dC, dI) vwCl ((fun u : Tx => (wX cs a u)) u) t.heap ∧ va_D (va_A (wX cs a X) sz) ((fun u : Tx => (wX cs a u)) u)) (va_A (wX cs a X) sz)) 0 0 (va_A (wX cs a X) sz) := by
  refine Met.ofW (cc := cX4_takeWord) (maxL := 1) (ret := (some .boolean)) (by decide) rfl ?_
  intro p e s m args below meth c s₁ B hml hv
  obtain ⟨rfl, hsz, hP, G, hD0⟩ := hv
  have hts := atoms_spec (ws := wsX4_takeWord) B.pre
  have hown : s.vm.findClass RX4 = some m.cls := findClass_of_methodNamed B.named
  have hlocks := B.notSynchronized
  have hx := B.exec
  have hb := B.bytes
  have hr := B.returns
  have C : CallFix p m c cX4_takeWord 1 s _ wsX4_takeWord RX4 := ⟨hx, hb, hml, hown, hts⟩
  obtain ⟨hK, hN⟩ := id G
  subst hsz
  have hD := hD0.self (sz := s.heap.size)
  generalize hAe : va_A (wX cs a X) s.heap.size = A at hD ⊢
  have hA : ∀ q : Nat, s.heap.size ≤ q → A q := fun q h => by rw [← hAe]; exact Or.inr h
  have hS : va_S A s.heap s.heap [] := va_S.rf
  have hR : RTz p l e ({ frames := 0, cells := 0, slots := 0, locals := 0 }) s m ([.ref (a 0)] : List Value).toArray below meth c cX4_takeWord (MQ below (va_Qi (fun r (u : Tx) => r = res.1 ∧ u = res.2 ∧ narrow .boolean (.int r) = .int r) (fun u t => va_P (dC, dI) vwCl ((fun u : Tx => (wX cs a u)) u) t.heap ∧ va_D A ((fun u : Tx => (wX cs a u)) u)) A) ([.ref (a 0)] : List Value).toArray s 0 0 A) (dC, dI) A (fun u : Tx => (wX cs a u)) res := fun H locs pc ls r u dd hn h hP hD hS => W.zret hx hb hr hn (fun t ht hW => ⟨⟨r, u, rfl, by cases h; exact ⟨rfl, rfl, hn⟩, by rw [ht]; exact hP, hD⟩, hS.F ht⟩) hS.2.2 dd
  have hl := lv_entry ([.ref (a 0)]) (n := 1) (Nat.le_of_ble_eq_true rfl)
  rw [lg_entry_eq]
  generalize (lg_sl ([.ref (a 0)]) ++ List.replicate (1 - (lg_sl ([.ref (a 0)])).length) Slot.unset).toArray = ls at hl ⊢
  have hl : lv_has ls 1 [(0, .ref (a 0))] := hl
  unfold f_X4_takeWord at hf
  refine lv_aload_n hx hb dX4_takeWord_0 rfl (lv_at hl 0 rfl) ?_
  refine lv_iconst (v := 1) hx hb dX4_takeWord_1 (by decide) ?_
  refine va_put (D := (dC, dI)) (ci := 4) (v := .int ((1 : Int32))) (ty := .int) (C := RX4) (T := TX4) (N := 6) hx hb hts in_X4_takeWord_X4 tyX4 tyX4_ok nmX4 hown hK hP hD hS 0 rfl rfl 2 (by decide) (hts (.fieldLink RX4 30 "BackLoans$Text" "token" "I") (by decide +kernel)) (fun _ h9 => h9) rfl (by decide +kernel) rfl rfl (Nat.le_of_ble_eq_true rfl) dX4_takeWord_2 (fun H locs hP hD hS => ?_)
  obtain ⟨X_2, hP, hD, hf⟩ := st_nm (ws := fun X_2 : Tx => (wX cs a X_2)) ((upd X.1 1 ((1 : Int32)), X.2)) hP hD hf
  exact w_X4_takeWord_5 C G hA hR (fun Xz H locs ls hl hP hD hS hf => b_X4_takeWord_57 C G hA hR Xz _ _ _ hl hP hD hS hf) FU X_2 _ _ _ (lv_sub hl [0] rfl) hP hD hS hf

theorem in_X4_step_X4 : ∀ w ∈ wsX40, w ∈ wsX4_step := by decide +kernel
def f_X4_step_8 (X : Tx) (K8 : Tx → Option Tx) (K46 : Tx → Option Tx) : Option Tx :=
  if (X.1 0) ≤ (X.1 2) then (
    K46 X
  ) else (
    gi ((X.1 2)) 150 <|
    if (X.2 ((X.1 2)).toNatClampNeg) = (32 : Int32) then (
      lett ((upd X.1 2 (((X.1 2) + (1 : Int32))), X.2)) fun X_40 =>
      K8 X_40
    ) else (
      K46 X
    )
  )
set_option maxHeartbeats 4000000 in
set_option maxRecDepth 100000 in
theorem b_X4_step_8 {p : Program} {l : Launch} {e : Env} {s : State} {m : MethodId} {args : Array Value} {below : List Frame} {meth : Method} {c : Code} {Q : State → Prop} {dC : Nat → ClassId} {dI : Nat → Nat → Nat} {cs : Nat → ClassId} {A : Nat → Prop} {a : Nat → Nat} {res : Tx} (C : CallFix p m c cX4_step 1 s args wsX4_step RX4) (G : GE dC dI cs s) (hA : ∀ q : Nat, s.heap.size ≤ q → A q) (hR : RTv p l e ({ frames := 1, cells := 0, slots := 0, locals := 20 }) s m args below meth c cX4_step Q (dC, dI) A (fun u : Tx => (wX cs a u)) res) (X : Tx) {K8 : Tx → Option Tx} {K46 : Tx → Option Tx} (hK8 : ∀ (X : Tx) (H : Heap) (locs : List Loc) (ls : Array Slot), lv_has ls 1 [(0, .ref (a 0))] → va_P (dC, dI) vwCl (wX cs a X) H → va_D A (wX cs a X) → va_S A s.heap H locs → K8 X = some res → W p l e ({ frames := 1, cells := 0, slots := 0, locals := 20 }) s m args below meth c H locs 0 0 Q (F0 m 8 ls [])) (hK46 : ∀ (X : Tx) (H : Heap) (locs : List Loc) (ls : Array Slot), lv_has ls 1 [(0, .ref (a 0))] → va_P (dC, dI) vwCl (wX cs a X) H → va_D A (wX cs a X) → va_S A s.heap H locs → K46 X = some res → W p l e ({ frames := 1, cells := 0, slots := 0, locals := 20 }) s m args below meth c H locs 0 0 Q (F0 m 46 ls [])) (H : Heap) (locs : List Loc) (ls : Array Slot) (hl : lv_has ls 1 [(0, .ref (a 0))]) (hP : va_P (dC, dI) vwCl (wX cs a X) H) (hD : va_D A (wX cs a X)) (hS : va_S A s.heap H locs) (hf : f_X4_step_8 X K8 K46 = some res) : W p l e ({ frames := 1, cells := 0, slots := 0, locals := 20 }) s m args below meth c H locs 0 0 Q (F0 m 8 ls []) := by
  obtain ⟨hx, hb, hml, hown, hts⟩ := id C
  obtain ⟨hK, hN⟩ := id G
  unfold f_X4_step_8 at hf
  refine lv_aload_n hx hb dX4_step_8 rfl (lv_at hl 0 rfl) ?_
  refine va_get (D := (dC, dI)) (ci := 4) (v := .int ((X.1 2))) (C := RX4) (T := TX4) (N := 6) hx hb hts in_X4_step_X4 hown hK hP 0 rfl rfl 3 (by decide) (hts (.fieldLink RX4 46 "BackLoans$Text" "start" "I") (by decide +kernel)) (fun _ h9 => h9) rfl dX4_step_9 ?_
  refine lv_aload_n hx hb dX4_step_12 rfl (lv_at hl 0 rfl) ?_
  refine va_get (D := (dC, dI)) (ci := 4) (v := .int ((X.1 0))) (C := RX4) (T := TX4) (N := 6) hx hb hts in_X4_step_X4 hown hK hP 0 rfl rfl 0 (by decide) (hts (.fieldLink RX4 15 "BackLoans$Text" "length" "I") (by decide +kernel)) (fun _ h9 => h9) rfl dX4_step_13 ?_
  refine lv_icmp_ge (tgt := 46) hx hb dX4_step_16 (by decide) (fun c1 => ?_) (fun c1 => ?_)
  · replace hf := it_t c1 hf
    exact hK46 X _ _ _ (lv_sub hl [0] rfl) hP hD hS hf
  · replace hf := it_f c1 hf
    refine lv_aload_n hx hb dX4_step_19 rfl (lv_at hl 0 rfl) ?_
    refine va_get (D := (dC, dI)) (ci := 4) (v := .ref (a 1)) (C := RX4) (T := TX4) (N := 6) hx hb hts in_X4_step_X4 hown hK hP 0 rfl rfl 1 (by decide) (hts (.fieldLink RX4 9 "BackLoans$Text" "bytes" "[B") (by decide +kernel)) (fun _ h9 => h9) rfl dX4_step_20 ?_
    refine lv_aload_n hx hb dX4_step_23 rfl (lv_at hl 0 rfl) ?_
    refine va_get (D := (dC, dI)) (ci := 4) (v := .int ((X.1 2))) (C := RX4) (T := TX4) (N := 6) hx hb hts in_X4_step_X4 hown hK hP 0 rfl rfl 3 (by decide) (hts (.fieldLink RX4 46 "BackLoans$Text" "start" "I") (by decide +kernel)) (fun _ h9 => h9) rfl dX4_step_24 ?_
    obtain ⟨hi2, hf⟩ := gi_e hf
    refine va_bald hx hb hK hP 1 2 rfl rfl hi2 dX4_step_27 ?_
    refine lv_bipush (v := 32) hx hb dX4_step_28 (by decide) ?_
    refine lv_icmp_ne (tgt := 46) hx hb dX4_step_30 (by decide) (fun c3 => ?_) (fun c3 => ?_)
    · replace hf := it_f c3 hf
      exact hK46 X _ _ _ (lv_sub hl [0] rfl) hP hD hS hf
    · replace hf := it_t c3 hf
      refine lv_aload_n hx hb dX4_step_33 rfl (lv_at hl 0 rfl) ?_
      refine lv_dup hx hb dX4_step_34 rfl ?_
      refine va_get (D := (dC, dI)) (ci := 4) (v := .int ((X.1 2))) (C := RX4) (T := TX4) (N := 6) hx hb hts in_X4_step_X4 hown hK hP 0 rfl rfl 3 (by decide) (hts (.fieldLink RX4 46 "BackLoans$Text" "start" "I") (by decide +kernel)) (fun _ h9 => h9) rfl dX4_step_35 ?_
      refine lv_iconst (v := 1) hx hb dX4_step_38 (by decide) ?_
      refine lv_iadd hx hb dX4_step_39 ?_
      refine va_put (D := (dC, dI)) (ci := 4) (v := .int (((X.1 2) + (1 : Int32)))) (ty := .int) (C := RX4) (T := TX4) (N := 6) hx hb hts in_X4_step_X4 tyX4 tyX4_ok nmX4 hown hK hP hD hS 0 rfl rfl 3 (by decide) (hts (.fieldLink RX4 46 "BackLoans$Text" "start" "I") (by decide +kernel)) (fun _ h9 => h9) rfl (by decide +kernel) rfl rfl (Nat.le_of_ble_eq_true rfl) dX4_step_40 (fun H locs hP hD hS => ?_)
      obtain ⟨X_40, hP, hD, hf⟩ := st_nm (ws := fun X_40 : Tx => (wX cs a X_40)) ((upd X.1 2 (((X.1 2) + (1 : Int32))), X.2)) hP hD hf
      refine lv_goto (tgt := 8) hx hb dX4_step_43 (by decide) ?_
      exact hK8 X_40 _ _ _ (lv_sub hl [0] rfl) hP hD hS hf
def l_X4_step_8  (K46 : Tx → Option Tx) (n : Nat) (X : Tx) : Option Tx := itr (fun (k : Tx → Option Tx) (z : Tx) => f_X4_step_8 z (fun X => k X) K46) n X
set_option maxHeartbeats 4000000 in
set_option maxRecDepth 100000 in
theorem w_X4_step_8 {p : Program} {l : Launch} {e : Env} {s : State} {m : MethodId} {args : Array Value} {below : List Frame} {meth : Method} {c : Code} {Q : State → Prop} {dC : Nat → ClassId} {dI : Nat → Nat → Nat} {cs : Nat → ClassId} {A : Nat → Prop} {a : Nat → Nat} {res : Tx} (C : CallFix p m c cX4_step 1 s args wsX4_step RX4) (G : GE dC dI cs s) (hA : ∀ q : Nat, s.heap.size ≤ q → A q) (hR : RTv p l e ({ frames := 1, cells := 0, slots := 0, locals := 20 }) s m args below meth c cX4_step Q (dC, dI) A (fun u : Tx => (wX cs a u)) res)  {K46 : Tx → Option Tx} (hK46 : ∀ (X : Tx) (H : Heap) (locs : List Loc) (ls : Array Slot), lv_has ls 1 [(0, .ref (a 0))] → va_P (dC, dI) vwCl (wX cs a X) H → va_D A (wX cs a X) → va_S A s.heap H locs → K46 X = some res → W p l e ({ frames := 1, cells := 0, slots := 0, locals := 20 }) s m args below meth c H locs 0 0 Q (F0 m 46 ls [])) : ∀ (n : Nat) (X : Tx) (H : Heap) (locs : List Loc) (ls : Array Slot), lv_has ls 1 [(0, .ref (a 0))] → va_P (dC, dI) vwCl (wX cs a X) H → va_D A (wX cs a X) → va_S A s.heap H locs → l_X4_step_8 K46 n X = some res → W p l e ({ frames := 1, cells := 0, slots := 0, locals := 20 }) s m args below meth c H locs 0 0 Q (F0 m 8 ls []) := by
  intro n
  induction n with
  | zero => intro X H locs ls hl hP hD hS hf; exact absurd hf (by simp [l_X4_step_8, itr])
  | succ n ih => intro X H locs ls hl hP hD hS hf; exact b_X4_step_8 C G hA hR X (K8 := fun X => l_X4_step_8 K46 n X) (fun X H locs ls hl hP hD hS hf => ih X H locs ls hl hP hD hS hf) hK46 H locs ls hl hP hD hS hf
def f_X4_step_106 (s1 : Int32) (X : Tx)  : Option Tx :=
  lett ((upd X.1 1 (s1), X.2)) fun X_106 =>
  lett ((upd X_106.1 3 (((X_106.1 2) + (1 : Int32))), X_106.2)) fun X_116 =>
  some X_116
set_option maxHeartbeats 4000000 in
set_option maxRecDepth 100000 in
theorem b_X4_step_106 {p : Program} {l : Launch} {e : Env} {s : State} {m : MethodId} {args : Array Value} {below : List Frame} {meth : Method} {c : Code} {Q : State → Prop} {dC : Nat → ClassId} {dI : Nat → Nat → Nat} {cs : Nat → ClassId} {A : Nat → Prop} {a : Nat → Nat} {res : Tx} (C : CallFix p m c cX4_step 1 s args wsX4_step RX4) (G : GE dC dI cs s) (hA : ∀ q : Nat, s.heap.size ≤ q → A q) (hR : RTv p l e ({ frames := 1, cells := 0, slots := 0, locals := 20 }) s m args below meth c cX4_step Q (dC, dI) A (fun u : Tx => (wX cs a u)) res) (s1 : Int32) (X : Tx)   (H : Heap) (locs : List Loc) (ls : Array Slot) (hl : lv_has ls 1 [(0, .ref (a 0))]) (hP : va_P (dC, dI) vwCl (wX cs a X) H) (hD : va_D A (wX cs a X)) (hS : va_S A s.heap H locs) (hf : f_X4_step_106 s1 X = some res) : W p l e ({ frames := 1, cells := 0, slots := 0, locals := 20 }) s m args below meth c H locs 0 0 Q (F0 m 106 ls [.int (s1), .ref (a 0)]) := by
  obtain ⟨hx, hb, hml, hown, hts⟩ := id C
  obtain ⟨hK, hN⟩ := id G
  unfold f_X4_step_106 at hf
  refine va_put (D := (dC, dI)) (ci := 4) (v := .int (s1)) (ty := .int) (C := RX4) (T := TX4) (N := 6) hx hb hts in_X4_step_X4 tyX4 tyX4_ok nmX4 hown hK hP hD hS 0 rfl rfl 2 (by decide) (hts (.fieldLink RX4 30 "BackLoans$Text" "token" "I") (by decide +kernel)) (fun _ h9 => h9) rfl (by decide +kernel) rfl rfl (Nat.le_of_ble_eq_true rfl) dX4_step_106 (fun H locs hP hD hS => ?_)
  obtain ⟨X_106, hP, hD, hf⟩ := st_nm (ws := fun X_106 : Tx => (wX cs a X_106)) ((upd X.1 1 (s1), X.2)) hP hD hf
  refine lv_aload_n hx hb dX4_step_109 rfl (lv_at hl 0 rfl) ?_
  refine lv_aload_n hx hb dX4_step_110 rfl (lv_at hl 0 rfl) ?_
  refine va_get (D := (dC, dI)) (ci := 4) (v := .int ((X_106.1 2))) (C := RX4) (T := TX4) (N := 6) hx hb hts in_X4_step_X4 hown hK hP 0 rfl rfl 3 (by decide) (hts (.fieldLink RX4 46 "BackLoans$Text" "start" "I") (by decide +kernel)) (fun _ h9 => h9) rfl dX4_step_111 ?_
  refine lv_iconst (v := 1) hx hb dX4_step_114 (by decide) ?_
  refine lv_iadd hx hb dX4_step_115 ?_
  refine va_put (D := (dC, dI)) (ci := 4) (v := .int (((X_106.1 2) + (1 : Int32)))) (ty := .int) (C := RX4) (T := TX4) (N := 6) hx hb hts in_X4_step_X4 tyX4 tyX4_ok nmX4 hown hK hP hD hS 0 rfl rfl 4 (by decide) (hts (.fieldLink RX4 19 "BackLoans$Text" "behind" "I") (by decide +kernel)) (fun _ h9 => h9) rfl (by decide +kernel) rfl rfl (Nat.le_of_ble_eq_true rfl) dX4_step_116 (fun H locs hP hD hS => ?_)
  obtain ⟨X_116, hP, hD, hf⟩ := st_nm (ws := fun X_116 : Tx => (wX cs a X_116)) ((upd X_106.1 3 (((X_106.1 2) + (1 : Int32))), X_106.2)) hP hD hf
  exact hR _ _ _ _ _ dX4_step_119 hf hP hD hS
def f_X4_step_46 (X : Tx)  : Option Tx :=
  lett ((upd X.1 3 ((X.1 2)), X.2)) fun X_51 =>
  if (X_51.1 2) < (X_51.1 0) then (
    bn (f_X4_takeWord X_51) fun r72 =>
    if r72.1 = 0 then (
      bn (f_X4_takeNumber r72.2) fun r79 =>
      if r79.1 = 0 then (
        gi ((r79.2.1 2)) 150 <|
        if (r79.2.2 ((r79.2.1 2)).toNatClampNeg) = (59 : Int32) then (
          f_X4_step_106 (3 : Int32) r79.2
        ) else (
          f_X4_step_106 (4 : Int32) r79.2
        )
      ) else (
        some r79.2
      )
    ) else (
      some r72.2
    )
  ) else (
    lett ((upd X_51.1 1 ((0 : Int32)), X_51.2)) fun X_67 =>
    some X_67
  )
set_option maxHeartbeats 4000000 in
set_option maxRecDepth 100000 in
theorem b_X4_step_46 {p : Program} {l : Launch} {e : Env} {s : State} {m : MethodId} {args : Array Value} {below : List Frame} {meth : Method} {c : Code} {Q : State → Prop} {dC : Nat → ClassId} {dI : Nat → Nat → Nat} {cs : Nat → ClassId} {A : Nat → Prop} {a : Nat → Nat} {res : Tx} (C : CallFix p m c cX4_step 1 s args wsX4_step RX4) (G : GE dC dI cs s) (hA : ∀ q : Nat, s.heap.size ≤ q → A q) (hR : RTv p l e ({ frames := 1, cells := 0, slots := 0, locals := 20 }) s m args below meth c cX4_step Q (dC, dI) A (fun u : Tx => (wX cs a u)) res) (X : Tx)   (H : Heap) (locs : List Loc) (ls : Array Slot) (hl : lv_has ls 1 [(0, .ref (a 0))]) (hP : va_P (dC, dI) vwCl (wX cs a X) H) (hD : va_D A (wX cs a X)) (hS : va_S A s.heap H locs) (hf : f_X4_step_46 X = some res) : W p l e ({ frames := 1, cells := 0, slots := 0, locals := 20 }) s m args below meth c H locs 0 0 Q (F0 m 46 ls []) := by
  obtain ⟨hx, hb, hml, hown, hts⟩ := id C
  obtain ⟨hK, hN⟩ := id G
  unfold f_X4_step_46 at hf
  refine lv_aload_n hx hb dX4_step_46 rfl (lv_at hl 0 rfl) ?_
  refine lv_aload_n hx hb dX4_step_47 rfl (lv_at hl 0 rfl) ?_
  refine va_get (D := (dC, dI)) (ci := 4) (v := .int ((X.1 2))) (C := RX4) (T := TX4) (N := 6) hx hb hts in_X4_step_X4 hown hK hP 0 rfl rfl 3 (by decide) (hts (.fieldLink RX4 46 "BackLoans$Text" "start" "I") (by decide +kernel)) (fun _ h9 => h9) rfl dX4_step_48 ?_
  refine va_put (D := (dC, dI)) (ci := 4) (v := .int ((X.1 2))) (ty := .int) (C := RX4) (T := TX4) (N := 6) hx hb hts in_X4_step_X4 tyX4 tyX4_ok nmX4 hown hK hP hD hS 0 rfl rfl 4 (by decide) (hts (.fieldLink RX4 19 "BackLoans$Text" "behind" "I") (by decide +kernel)) (fun _ h9 => h9) rfl (by decide +kernel) rfl rfl (Nat.le_of_ble_eq_true rfl) dX4_step_51 (fun H locs hP hD hS => ?_)
  obtain ⟨X_51, hP, hD, hf⟩ := st_nm (ws := fun X_51 : Tx => (wX cs a X_51)) ((upd X.1 3 ((X.1 2)), X.2)) hP hD hf
  refine lv_aload_n hx hb dX4_step_54 rfl (lv_at hl 0 rfl) ?_
  refine va_get (D := (dC, dI)) (ci := 4) (v := .int ((X_51.1 2))) (C := RX4) (T := TX4) (N := 6) hx hb hts in_X4_step_X4 hown hK hP 0 rfl rfl 3 (by decide) (hts (.fieldLink RX4 46 "BackLoans$Text" "start" "I") (by decide +kernel)) (fun _ h9 => h9) rfl dX4_step_55 ?_
  refine lv_aload_n hx hb dX4_step_58 rfl (lv_at hl 0 rfl) ?_
  refine va_get (D := (dC, dI)) (ci := 4) (v := .int ((X_51.1 0))) (C := RX4) (T := TX4) (N := 6) hx hb hts in_X4_step_X4 hown hK hP 0 rfl rfl 0 (by decide) (hts (.fieldLink RX4 15 "BackLoans$Text" "length" "I") (by decide +kernel)) (fun _ h9 => h9) rfl dX4_step_59 ?_
  refine lv_icmp_lt (tgt := 71) hx hb dX4_step_62 (by decide) (fun c1 => ?_) (fun c1 => ?_)
  · replace hf := it_t c1 hf
    refine lv_aload_n hx hb dX4_step_71 rfl (lv_at hl 0 rfl) ?_
    obtain ⟨r72, hr72, hf⟩ := bn_e hf
    have hPc := hP.sub (ws' := (wX cs a X_51)) [0, 1] rfl
    have hDc := hD.sub (ws' := (wX cs a X_51)) [0, 1] (by decide) rfl
    have hFc := va_free (wc := (wX cs a X_51)) hD hS hA [0, 1] rfl
    refine va_calli (va_runV (As := []) (rest := []) C (c_X4_takeWord l dC dI cs a H.size X_51 r72 hr72) (cwV 0 hts gX4_step_X4_takeWord rfl rfl rfl (by decide +kernel) ⟨Nat.le_of_ble_eq_true rfl, Nat.le_of_ble_eq_true rfl⟩) ⟨(fun a U g mk q => ⟨q.1, q.2.1, q.2.2.1, GE.calling q.2.2.2.1, q.2.2.2.2⟩), va_recv hK hPc (ci := 4) (q0 := 0) rfl rfl, (fun U hU hW => ⟨rfl, by rw [hU], by rw [hU]; exact hPc, GE.warm hW G, hDc.weaken (fun _ _ _ _ => trivial)⟩)⟩ rfl rfl hl.1 rfl (lv_room (Nat.le_of_ble_eq_true rfl)) dX4_step_72 ⟨Nat.le_of_ble_eq_true rfl, Nat.le_of_ble_eq_true rfl⟩) hS (fun q _ h => hFc q h) hFc (fun q u t H1 locs ht hvm hw hB hz1 hk1 hS => ?_)
    obtain ⟨rfl, rfl, hnr72⟩ := hw
    obtain ⟨hP1, hD1⟩ := hB
    rw [ht] at hP1
    obtain ⟨hP, hD⟩ := va_join (wr := []) (w1 := (wX cs a r72.2)) hP hD [0, 1] [] rfl rfl (by decide) (by decide) hk1 hFc hP1 hD1
    generalize H1 = H at hP hS ⊢
    have hP := hP.sub (ws' := (wX cs a r72.2)) [0, 1] rfl
    have hD := hD.sub (ws' := (wX cs a r72.2)) [0, 1] (by decide) rfl
    refine lv_if_ne (tgt := 85) hx hb dX4_step_75 (by decide) (fun c2 => ?_) (fun c2 => ?_)
    · replace hf := it_f c2 hf
      exact hR _ _ _ _ _ dX4_step_85 hf hP hD hS
    · replace hf := it_t c2 hf
      refine lv_aload_n hx hb dX4_step_78 rfl (lv_at hl 0 rfl) ?_
      obtain ⟨r79, hr79, hf⟩ := bn_e hf
      have hPc := hP.sub (ws' := (wX cs a r72.2)) [0, 1] rfl
      have hDc := hD.sub (ws' := (wX cs a r72.2)) [0, 1] (by decide) rfl
      have hFc := va_free (wc := (wX cs a r72.2)) hD hS hA [0, 1] rfl
      refine va_calli (va_runV (As := []) (rest := []) C (c_X4_takeNumber l dC dI cs a H.size r72.2 r79 hr79) (cwV 0 hts gX4_step_X4_takeNumber rfl rfl rfl (by decide +kernel) ⟨Nat.le_of_ble_eq_true rfl, Nat.le_of_ble_eq_true rfl⟩) ⟨(fun a U g mk q => ⟨q.1, q.2.1, q.2.2.1, GE.calling q.2.2.2.1, q.2.2.2.2⟩), va_recv hK hPc (ci := 4) (q0 := 0) rfl rfl, (fun U hU hW => ⟨rfl, by rw [hU], by rw [hU]; exact hPc, GE.warm hW G, hDc.weaken (fun _ _ _ _ => trivial)⟩)⟩ rfl rfl hl.1 rfl (lv_room (Nat.le_of_ble_eq_true rfl)) dX4_step_79 ⟨Nat.le_of_ble_eq_true rfl, Nat.le_of_ble_eq_true rfl⟩) hS (fun q _ h => hFc q h) hFc (fun q u t H1 locs ht hvm hw hB hz1 hk1 hS => ?_)
      obtain ⟨rfl, rfl, hnr79⟩ := hw
      obtain ⟨hP1, hD1⟩ := hB
      rw [ht] at hP1
      obtain ⟨hP, hD⟩ := va_join (wr := []) (w1 := (wX cs a r79.2)) hP hD [0, 1] [] rfl rfl (by decide) (by decide) hk1 hFc hP1 hD1
      generalize H1 = H at hP hS ⊢
      have hP := hP.sub (ws' := (wX cs a r79.2)) [0, 1] rfl
      have hD := hD.sub (ws' := (wX cs a r79.2)) [0, 1] (by decide) rfl
      refine lv_if_eq (tgt := 86) hx hb dX4_step_82 (by decide) (fun c3 => ?_) (fun c3 => ?_)
      · replace hf := it_t c3 hf
        refine lv_aload_n hx hb dX4_step_86 rfl (lv_at hl 0 rfl) ?_
        refine lv_aload_n hx hb dX4_step_87 rfl (lv_at hl 0 rfl) ?_
        refine va_get (D := (dC, dI)) (ci := 4) (v := .ref (a 1)) (C := RX4) (T := TX4) (N := 6) hx hb hts in_X4_step_X4 hown hK hP 0 rfl rfl 1 (by decide) (hts (.fieldLink RX4 9 "BackLoans$Text" "bytes" "[B") (by decide +kernel)) (fun _ h9 => h9) rfl dX4_step_88 ?_
        refine lv_aload_n hx hb dX4_step_91 rfl (lv_at hl 0 rfl) ?_
        refine va_get (D := (dC, dI)) (ci := 4) (v := .int ((r79.2.1 2))) (C := RX4) (T := TX4) (N := 6) hx hb hts in_X4_step_X4 hown hK hP 0 rfl rfl 3 (by decide) (hts (.fieldLink RX4 46 "BackLoans$Text" "start" "I") (by decide +kernel)) (fun _ h9 => h9) rfl dX4_step_92 ?_
        obtain ⟨hi4, hf⟩ := gi_e hf
        refine va_bald hx hb hK hP 1 2 rfl rfl hi4 dX4_step_95 ?_
        refine lv_bipush (v := 59) hx hb dX4_step_96 (by decide) ?_
        refine lv_icmp_ne (tgt := 105) hx hb dX4_step_98 (by decide) (fun c5 => ?_) (fun c5 => ?_)
        · replace hf := it_f c5 hf
          refine lv_iconst (v := 4) hx hb dX4_step_105 (by decide) ?_
          exact b_X4_step_106 C G hA hR (4 : Int32) r79.2 _ _ _ (lv_sub hl [0] rfl) hP hD hS hf
        · replace hf := it_t c5 hf
          refine lv_iconst (v := 3) hx hb dX4_step_101 (by decide) ?_
          refine lv_goto (tgt := 106) hx hb dX4_step_102 (by decide) ?_
          exact b_X4_step_106 C G hA hR (3 : Int32) r79.2 _ _ _ (lv_sub hl [0] rfl) hP hD hS hf
      · replace hf := it_f c3 hf
        exact hR _ _ _ _ _ dX4_step_85 hf hP hD hS
  · replace hf := it_f c1 hf
    refine lv_aload_n hx hb dX4_step_65 rfl (lv_at hl 0 rfl) ?_
    refine lv_iconst (v := 0) hx hb dX4_step_66 (by decide) ?_
    refine va_put (D := (dC, dI)) (ci := 4) (v := .int ((0 : Int32))) (ty := .int) (C := RX4) (T := TX4) (N := 6) hx hb hts in_X4_step_X4 tyX4 tyX4_ok nmX4 hown hK hP hD hS 0 rfl rfl 2 (by decide) (hts (.fieldLink RX4 30 "BackLoans$Text" "token" "I") (by decide +kernel)) (fun _ h9 => h9) rfl (by decide +kernel) rfl rfl (Nat.le_of_ble_eq_true rfl) dX4_step_67 (fun H locs hP hD hS => ?_)
    obtain ⟨X_67, hP, hD, hf⟩ := st_nm (ws := fun X_67 : Tx => (wX cs a X_67)) ((upd X_51.1 1 ((0 : Int32)), X_51.2)) hP hD hf
    exact hR _ _ _ _ _ dX4_step_70 hf hP hD hS
def f_X4_step  (X : Tx) : Option Tx :=
  lett ((upd X.1 2 ((X.1 3)), X.2)) fun X_5 =>
  l_X4_step_8 (fun Xz => f_X4_step_46 Xz) FU X_5
set_option maxHeartbeats 4000000 in
set_option maxRecDepth 100000 in
theorem c_X4_step (l : Launch) (dC : Nat → ClassId) (dI : Nat → Nat → Nat) (cs : Nat → ClassId) (a : Nat → Nat) (sz : Nat) (X : Tx)  (res : Tx) (hf : f_X4_step X = some res) : Met l yX4_step wsX4_step ({ frames := 1, cells := 0, slots := 0, locals := 20 }) (va_Pc [.ref (a 0)] (fun U => U.heap.size = sz ∧ va_P (dC, dI) vwCl (wX cs a X) U.heap ∧ GE dC dI cs U ∧ va_D (fun _ => True) (wX cs a X))) (va_Qv (fun u : Tx => u = res) (fun u t => va_P (dC, dI) vwCl ((fun u : Tx => (wX cs a u)) u) t.heap ∧ va_D (va_A (wX cs a X) sz) ((fun u : Tx => (wX cs a u)) u)) (va_A (wX cs a X) sz)) 0 0 (va_A (wX cs a X) sz) := by
  refine Met.ofW (cc := cX4_step) (maxL := 1) (ret := none) (by decide) rfl ?_
  intro p e s m args below meth c s₁ B hml hv
  obtain ⟨rfl, hsz, hP, G, hD0⟩ := hv
  have hts := atoms_spec (ws := wsX4_step) B.pre
  have hown : s.vm.findClass RX4 = some m.cls := findClass_of_methodNamed B.named
  have hlocks := B.notSynchronized
  have hx := B.exec
  have hb := B.bytes
  have hr := B.returns
  have C : CallFix p m c cX4_step 1 s _ wsX4_step RX4 := ⟨hx, hb, hml, hown, hts⟩
  obtain ⟨hK, hN⟩ := id G
  subst hsz
  have hD := hD0.self (sz := s.heap.size)
  generalize hAe : va_A (wX cs a X) s.heap.size = A at hD ⊢
  have hA : ∀ q : Nat, s.heap.size ≤ q → A q := fun q h => by rw [← hAe]; exact Or.inr h
  have hS : va_S A s.heap s.heap [] := va_S.rf
  have hR : RTv p l e ({ frames := 1, cells := 0, slots := 0, locals := 20 }) s m ([.ref (a 0)] : List Value).toArray below meth c cX4_step (MQ below (va_Qv (fun u : Tx => u = res) (fun u t => va_P (dC, dI) vwCl ((fun u : Tx => (wX cs a u)) u) t.heap ∧ va_D A ((fun u : Tx => (wX cs a u)) u)) A) ([.ref (a 0)] : List Value).toArray s 0 0 A) (dC, dI) A (fun u : Tx => (wX cs a u)) res := fun H locs pc ls u dd h hP hD hS => W.vret hx hb hr (fun t ht hW => ⟨⟨u, rfl, by cases h; rfl, by rw [ht]; exact hP, hD⟩, hS.F ht⟩) hS.2.2 dd
  have hl := lv_entry ([.ref (a 0)]) (n := 1) (Nat.le_of_ble_eq_true rfl)
  rw [lg_entry_eq]
  generalize (lg_sl ([.ref (a 0)]) ++ List.replicate (1 - (lg_sl ([.ref (a 0)])).length) Slot.unset).toArray = ls at hl ⊢
  have hl : lv_has ls 1 [(0, .ref (a 0))] := hl
  unfold f_X4_step at hf
  refine lv_aload_n hx hb dX4_step_0 rfl (lv_at hl 0 rfl) ?_
  refine lv_aload_n hx hb dX4_step_1 rfl (lv_at hl 0 rfl) ?_
  refine va_get (D := (dC, dI)) (ci := 4) (v := .int ((X.1 3))) (C := RX4) (T := TX4) (N := 6) hx hb hts in_X4_step_X4 hown hK hP 0 rfl rfl 4 (by decide) (hts (.fieldLink RX4 19 "BackLoans$Text" "behind" "I") (by decide +kernel)) (fun _ h9 => h9) rfl dX4_step_2 ?_
  refine va_put (D := (dC, dI)) (ci := 4) (v := .int ((X.1 3))) (ty := .int) (C := RX4) (T := TX4) (N := 6) hx hb hts in_X4_step_X4 tyX4 tyX4_ok nmX4 hown hK hP hD hS 0 rfl rfl 3 (by decide) (hts (.fieldLink RX4 46 "BackLoans$Text" "start" "I") (by decide +kernel)) (fun _ h9 => h9) rfl (by decide +kernel) rfl rfl (Nat.le_of_ble_eq_true rfl) dX4_step_5 (fun H locs hP hD hS => ?_)
  obtain ⟨X_5, hP, hD, hf⟩ := st_nm (ws := fun X_5 : Tx => (wX cs a X_5)) ((upd X.1 2 ((X.1 3)), X.2)) hP hD hf
  exact w_X4_step_8 C G hA hR (fun Xz H locs ls hl hP hD hS hf => b_X4_step_46 C G hA hR Xz _ _ _ hl hP hD hS hf) FU X_5 _ _ _ (lv_sub hl [0] rfl) hP hD hS hf

theorem in_X4_numberWithin_X4 : ∀ w ∈ wsX40, w ∈ wsX4_numberWithin := by decide +kernel
def f_X4_numberWithin (x1 : Int32) (x2 : Int32) (X : Tx) : Option (Int32 × Tx) :=
  bn (f_X4_step X) fun r1 =>
  if (r1.1 1) = (2 : Int32) then (
    bn (f_X7_within (r1.1 4) x1 x2) fun r18 =>
    if r18 = 0 then (
      some ((0 : Int32), r1)
    ) else (
      some ((1 : Int32), r1)
    )
  ) else (
    some ((0 : Int32), r1)
  )
set_option maxHeartbeats 4000000 in
set_option maxRecDepth 100000 in
theorem c_X4_numberWithin (l : Launch) (dC : Nat → ClassId) (dI : Nat → Nat → Nat) (cs : Nat → ClassId) (a : Nat → Nat) (sz : Nat) (X : Tx) (x1 : Int32) (x2 : Int32) (res : Int32 × Tx) (hf : f_X4_numberWithin x1 x2 X = some res) : Met l yX4_numberWithin wsX4_numberWithin ({ frames := 2, cells := 0, slots := 0, locals := 40 }) (va_Pc [.ref (a 0), .int (x1), .int (x2)] (fun U => U.heap.size = sz ∧ va_P (dC, dI) vwCl (wX cs a X) U.heap ∧ GE dC dI cs U ∧ va_D (fun _ => True) (wX cs a X))) (va_Qi (fun r (u : Tx) => r = res.1 ∧ u = res.2 ∧ narrow .boolean (.int r) = .int r) (fun u t => va_P (dC, dI) vwCl ((fun u : Tx => (wX cs a u)) u) t.heap ∧ va_D (va_A (wX cs a X) sz) ((fun u : Tx => (wX cs a u)) u)) (va_A (wX cs a X) sz)) 0 0 (va_A (wX cs a X) sz) := by
  refine Met.ofW (cc := cX4_numberWithin) (maxL := 3) (ret := (some .boolean)) (by decide) rfl ?_
  intro p e s m args below meth c s₁ B hml hv
  obtain ⟨rfl, hsz, hP, G, hD0⟩ := hv
  have hts := atoms_spec (ws := wsX4_numberWithin) B.pre
  have hown : s.vm.findClass RX4 = some m.cls := findClass_of_methodNamed B.named
  have hlocks := B.notSynchronized
  have hx := B.exec
  have hb := B.bytes
  have hr := B.returns
  have C : CallFix p m c cX4_numberWithin 3 s _ wsX4_numberWithin RX4 := ⟨hx, hb, hml, hown, hts⟩
  obtain ⟨hK, hN⟩ := id G
  subst hsz
  have hD := hD0.self (sz := s.heap.size)
  generalize hAe : va_A (wX cs a X) s.heap.size = A at hD ⊢
  have hA : ∀ q : Nat, s.heap.size ≤ q → A q := fun q h => by rw [← hAe]; exact Or.inr h
  have hS : va_S A s.heap s.heap [] := va_S.rf
  have hR : RTz p l e ({ frames := 2, cells := 0, slots := 0, locals := 40 }) s m ([.ref (a 0), .int (x1), .int (x2)] : List Value).toArray below meth c cX4_numberWithin (MQ below (va_Qi (fun r (u : Tx) => r = res.1 ∧ u = res.2 ∧ narrow .boolean (.int r) = .int r) (fun u t => va_P (dC, dI) vwCl ((fun u : Tx => (wX cs a u)) u) t.heap ∧ va_D A ((fun u : Tx => (wX cs a u)) u)) A) ([.ref (a 0), .int (x1), .int (x2)] : List Value).toArray s 0 0 A) (dC, dI) A (fun u : Tx => (wX cs a u)) res := fun H locs pc ls r u dd hn h hP hD hS => W.zret hx hb hr hn (fun t ht hW => ⟨⟨r, u, rfl, by cases h; exact ⟨rfl, rfl, hn⟩, by rw [ht]; exact hP, hD⟩, hS.F ht⟩) hS.2.2 dd
  have hl := lv_entry ([.ref (a 0), .int (x1), .int (x2)]) (n := 3) (Nat.le_of_ble_eq_true rfl)
  rw [lg_entry_eq]
  generalize (lg_sl ([.ref (a 0), .int (x1), .int (x2)]) ++ List.replicate (3 - (lg_sl ([.ref (a 0), .int (x1), .int (x2)])).length) Slot.unset).toArray = ls at hl ⊢
  have hl : lv_has ls 3 [(0, .ref (a 0)), (1, .int (x1)), (2, .int (x2))] := hl
  unfold f_X4_numberWithin at hf
  refine lv_aload_n hx hb dX4_numberWithin_0 rfl (lv_at hl 0 rfl) ?_
  obtain ⟨r1, hr1, hf⟩ := bn_e hf
  have hPc := hP.sub (ws' := (wX cs a X)) [0, 1] rfl
  have hDc := hD.sub (ws' := (wX cs a X)) [0, 1] (by decide) rfl
  have hFc := va_free (wc := (wX cs a X)) hD hS hA [0, 1] rfl
  refine va_callv (va_runV (As := []) (rest := []) C (c_X4_step l dC dI cs a s.heap.size X r1 hr1) (cwV 0 hts gX4_numberWithin_X4_step rfl rfl rfl (by decide +kernel) ⟨Nat.le_of_ble_eq_true rfl, Nat.le_of_ble_eq_true rfl⟩) ⟨(fun a U g mk q => ⟨q.1, q.2.1, q.2.2.1, GE.calling q.2.2.2.1, q.2.2.2.2⟩), va_recv hK hPc (ci := 4) (q0 := 0) rfl rfl, (fun U hU hW => ⟨rfl, by rw [hU], by rw [hU]; exact hPc, GE.warm hW G, hDc.weaken (fun _ _ _ _ => trivial)⟩)⟩ rfl rfl hl.1 rfl (lv_room (Nat.le_of_ble_eq_true rfl)) dX4_numberWithin_1 ⟨Nat.le_of_ble_eq_true rfl, Nat.le_of_ble_eq_true rfl⟩) hS (fun q _ h => hFc q h) hFc (fun u t H1 locs ht hvm hw hB hz1 hk1 hS => ?_)
  obtain rfl := hw.symm
  obtain ⟨hP1, hD1⟩ := hB
  rw [ht] at hP1
  obtain ⟨hP, hD⟩ := va_join (wr := []) (w1 := (wX cs a r1)) hP hD [0, 1] [] rfl rfl (by decide) (by decide) hk1 hFc hP1 hD1
  generalize H1 = H at hP hS ⊢
  have hP := hP.sub (ws' := (wX cs a r1)) [0, 1] rfl
  have hD := hD.sub (ws' := (wX cs a r1)) [0, 1] (by decide) rfl
  refine lv_aload_n hx hb dX4_numberWithin_4 rfl (lv_at hl 0 rfl) ?_
  refine va_get (D := (dC, dI)) (ci := 4) (v := .int ((r1.1 1))) (C := RX4) (T := TX4) (N := 6) hx hb hts in_X4_numberWithin_X4 hown hK hP 0 rfl rfl 2 (by decide) (hts (.fieldLink RX4 30 "BackLoans$Text" "token" "I") (by decide +kernel)) (fun _ h9 => h9) rfl dX4_numberWithin_5 ?_
  refine lv_iconst (v := 2) hx hb dX4_numberWithin_8 (by decide) ?_
  refine lv_icmp_ne (tgt := 28) hx hb dX4_numberWithin_9 (by decide) (fun c1 => ?_) (fun c1 => ?_)
  · replace hf := it_f c1 hf
    refine lv_iconst (v := 0) hx hb dX4_numberWithin_28 (by decide) ?_
    exact hR _ _ _ _ _ _ dX4_numberWithin_29 (by decide) hf hP hD hS
  · replace hf := it_t c1 hf
    refine lv_aload_n hx hb dX4_numberWithin_12 rfl (lv_at hl 0 rfl) ?_
    refine va_get (D := (dC, dI)) (ci := 4) (v := .int ((r1.1 4))) (C := RX4) (T := TX4) (N := 6) hx hb hts in_X4_numberWithin_X4 hown hK hP 0 rfl rfl 5 (by decide) (hts (.fieldLink RX4 83 "BackLoans$Text" "value" "I") (by decide +kernel)) (fun _ h9 => h9) rfl dX4_numberWithin_13 ?_
    refine lv_iload_n hx hb dX4_numberWithin_16 rfl (lv_at hl 1 rfl) ?_
    refine lv_iload_n hx hb dX4_numberWithin_17 rfl (lv_at hl 2 rfl) ?_
    obtain ⟨r18, hr18, hf⟩ := bn_e hf
    have hPc := hP.sub (ws' := ([] : va_W)) [] rfl
    refine vp_callSi (va_Run.run (va_runSN (As := [.int ((r1.1 4)), .int (x1), .int (x2)]) (rest := []) C (c_X7_within l dC dI cs (r1.1 4) x1 x2 r18 hr18) ⟨va_cnB 3 hts gX4_numberWithin_X7_within_n105 rfl rfl rfl (hN (RX4, 105, yX7_within, RX7) (by decide +kernel)) (hts (.initialized RX7) (by decide +kernel)) (by decide +kernel) ⟨Nat.le_of_ble_eq_true rfl, Nat.le_of_ble_eq_true rfl⟩, (hts (.static yX7_within) (by decide +kernel)), trivial⟩ ⟨(fun a U g mk q => ⟨q.1, q.2.1, GE.calling q.2.2⟩), (fun U hU hW => ⟨rfl, by rw [hU]; exact hPc, GE.warm hW G⟩)⟩ rfl rfl hl.1 rfl (lv_room (Nat.le_of_ble_eq_true rfl)) dX4_numberWithin_18 ⟨Nat.le_of_ble_eq_true rfl, Nat.le_of_ble_eq_true rfl⟩)) (fun qr18 hqr18 => ?_)
    obtain ⟨hqr18, hnr18⟩ := hqr18
    obtain rfl := hqr18.symm
    refine lv_if_eq (tgt := 28) hx hb dX4_numberWithin_21 (by decide) (fun c2 => ?_) (fun c2 => ?_)
    · replace hf := it_t c2 hf
      refine lv_iconst (v := 0) hx hb dX4_numberWithin_28 (by decide) ?_
      exact hR _ _ _ _ _ _ dX4_numberWithin_29 (by decide) hf hP hD hS
    · replace hf := it_f c2 hf
      refine lv_iconst (v := 1) hx hb dX4_numberWithin_24 (by decide) ?_
      refine lv_goto (tgt := 29) hx hb dX4_numberWithin_25 (by decide) ?_
      exact hR _ _ _ _ _ _ dX4_numberWithin_29 (by decide) hf hP hD hS

theorem in_X4_itemEnds_X4 : ∀ w ∈ wsX40, w ∈ wsX4_itemEnds := by decide +kernel
def f_X4_itemEnds  (X : Tx) : Option (Int32 × Tx) :=
  bn (f_X4_step X) fun r1 =>
  if (r1.1 1) = (3 : Int32) then (
    some ((1 : Int32), r1)
  ) else (
    some ((0 : Int32), r1)
  )
set_option maxHeartbeats 4000000 in
set_option maxRecDepth 100000 in
theorem c_X4_itemEnds (l : Launch) (dC : Nat → ClassId) (dI : Nat → Nat → Nat) (cs : Nat → ClassId) (a : Nat → Nat) (sz : Nat) (X : Tx)  (res : Int32 × Tx) (hf : f_X4_itemEnds X = some res) : Met l yX4_itemEnds wsX4_itemEnds ({ frames := 2, cells := 0, slots := 0, locals := 40 }) (va_Pc [.ref (a 0)] (fun U => U.heap.size = sz ∧ va_P (dC, dI) vwCl (wX cs a X) U.heap ∧ GE dC dI cs U ∧ va_D (fun _ => True) (wX cs a X))) (va_Qi (fun r (u : Tx) => r = res.1 ∧ u = res.2 ∧ narrow .boolean (.int r) = .int r) (fun u t => va_P (dC, dI) vwCl ((fun u : Tx => (wX cs a u)) u) t.heap ∧ va_D (va_A (wX cs a X) sz) ((fun u : Tx => (wX cs a u)) u)) (va_A (wX cs a X) sz)) 0 0 (va_A (wX cs a X) sz) := by
  refine Met.ofW (cc := cX4_itemEnds) (maxL := 1) (ret := (some .boolean)) (by decide) rfl ?_
  intro p e s m args below meth c s₁ B hml hv
  obtain ⟨rfl, hsz, hP, G, hD0⟩ := hv
  have hts := atoms_spec (ws := wsX4_itemEnds) B.pre
  have hown : s.vm.findClass RX4 = some m.cls := findClass_of_methodNamed B.named
  have hlocks := B.notSynchronized
  have hx := B.exec
  have hb := B.bytes
  have hr := B.returns
  have C : CallFix p m c cX4_itemEnds 1 s _ wsX4_itemEnds RX4 := ⟨hx, hb, hml, hown, hts⟩
  obtain ⟨hK, hN⟩ := id G
  subst hsz
  have hD := hD0.self (sz := s.heap.size)
  generalize hAe : va_A (wX cs a X) s.heap.size = A at hD ⊢
  have hA : ∀ q : Nat, s.heap.size ≤ q → A q := fun q h => by rw [← hAe]; exact Or.inr h
  have hS : va_S A s.heap s.heap [] := va_S.rf
  have hR : RTz p l e ({ frames := 2, cells := 0, slots := 0, locals := 40 }) s m ([.ref (a 0)] : List Value).toArray below meth c cX4_itemEnds (MQ below (va_Qi (fun r (u : Tx) => r = res.1 ∧ u = res.2 ∧ narrow .boolean (.int r) = .int r) (fun u t => va_P (dC, dI) vwCl ((fun u : Tx => (wX cs a u)) u) t.heap ∧ va_D A ((fun u : Tx => (wX cs a u)) u)) A) ([.ref (a 0)] : List Value).toArray s 0 0 A) (dC, dI) A (fun u : Tx => (wX cs a u)) res := fun H locs pc ls r u dd hn h hP hD hS => W.zret hx hb hr hn (fun t ht hW => ⟨⟨r, u, rfl, by cases h; exact ⟨rfl, rfl, hn⟩, by rw [ht]; exact hP, hD⟩, hS.F ht⟩) hS.2.2 dd
  have hl := lv_entry ([.ref (a 0)]) (n := 1) (Nat.le_of_ble_eq_true rfl)
  rw [lg_entry_eq]
  generalize (lg_sl ([.ref (a 0)]) ++ List.replicate (1 - (lg_sl ([.ref (a 0)])).length) Slot.unset).toArray = ls at hl ⊢
  have hl : lv_has ls 1 [(0, .ref (a 0))] := hl
  unfold f_X4_itemEnds at hf
  refine lv_aload_n hx hb dX4_itemEnds_0 rfl (lv_at hl 0 rfl) ?_
  obtain ⟨r1, hr1, hf⟩ := bn_e hf
  have hPc := hP.sub (ws' := (wX cs a X)) [0, 1] rfl
  have hDc := hD.sub (ws' := (wX cs a X)) [0, 1] (by decide) rfl
  have hFc := va_free (wc := (wX cs a X)) hD hS hA [0, 1] rfl
  refine va_callv (va_runV (As := []) (rest := []) C (c_X4_step l dC dI cs a s.heap.size X r1 hr1) (cwV 0 hts gX4_itemEnds_X4_step rfl rfl rfl (by decide +kernel) ⟨Nat.le_of_ble_eq_true rfl, Nat.le_of_ble_eq_true rfl⟩) ⟨(fun a U g mk q => ⟨q.1, q.2.1, q.2.2.1, GE.calling q.2.2.2.1, q.2.2.2.2⟩), va_recv hK hPc (ci := 4) (q0 := 0) rfl rfl, (fun U hU hW => ⟨rfl, by rw [hU], by rw [hU]; exact hPc, GE.warm hW G, hDc.weaken (fun _ _ _ _ => trivial)⟩)⟩ rfl rfl hl.1 rfl (lv_room (Nat.le_of_ble_eq_true rfl)) dX4_itemEnds_1 ⟨Nat.le_of_ble_eq_true rfl, Nat.le_of_ble_eq_true rfl⟩) hS (fun q _ h => hFc q h) hFc (fun u t H1 locs ht hvm hw hB hz1 hk1 hS => ?_)
  obtain rfl := hw.symm
  obtain ⟨hP1, hD1⟩ := hB
  rw [ht] at hP1
  obtain ⟨hP, hD⟩ := va_join (wr := []) (w1 := (wX cs a r1)) hP hD [0, 1] [] rfl rfl (by decide) (by decide) hk1 hFc hP1 hD1
  generalize H1 = H at hP hS ⊢
  have hP := hP.sub (ws' := (wX cs a r1)) [0, 1] rfl
  have hD := hD.sub (ws' := (wX cs a r1)) [0, 1] (by decide) rfl
  refine lv_aload_n hx hb dX4_itemEnds_4 rfl (lv_at hl 0 rfl) ?_
  refine va_get (D := (dC, dI)) (ci := 4) (v := .int ((r1.1 1))) (C := RX4) (T := TX4) (N := 6) hx hb hts in_X4_itemEnds_X4 hown hK hP 0 rfl rfl 2 (by decide) (hts (.fieldLink RX4 30 "BackLoans$Text" "token" "I") (by decide +kernel)) (fun _ h9 => h9) rfl dX4_itemEnds_5 ?_
  refine lv_iconst (v := 3) hx hb dX4_itemEnds_8 (by decide) ?_
  refine lv_icmp_ne (tgt := 16) hx hb dX4_itemEnds_9 (by decide) (fun c1 => ?_) (fun c1 => ?_)
  · replace hf := it_f c1 hf
    refine lv_iconst (v := 0) hx hb dX4_itemEnds_16 (by decide) ?_
    exact hR _ _ _ _ _ _ dX4_itemEnds_17 (by decide) hf hP hD hS
  · replace hf := it_t c1 hf
    refine lv_iconst (v := 1) hx hb dX4_itemEnds_12 (by decide) ?_
    refine lv_goto (tgt := 17) hx hb dX4_itemEnds_13 (by decide) ?_
    exact hR _ _ _ _ _ _ dX4_itemEnds_17 (by decide) hf hP hD hS

theorem in_X4_chestItem_X4 : ∀ w ∈ wsX40, w ∈ wsX4_chestItem := by decide +kernel
theorem in_X4_chestItem_X5 : ∀ w ∈ wsX50, w ∈ wsX4_chestItem := by decide +kernel
def f_X4_chestItem  (X : Tx) (T : Tw) : Option (Int32 × Tx × Tw) :=
  bn (f_X4_numberWithin (0 : Int32) (99999 : Int32) X) fun r4 =>
  if r4.1 = 0 then (
    some ((0 : Int32), (r4.2, T))
  ) else (
    lett ((upd T.1 0 ((r4.2.1 4)), T.2)) fun T_17 =>
    bn (f_X4_itemEnds r4.2) fun r21 =>
    some (r21.1, (r21.2, T_17))
  )
set_option maxHeartbeats 4000000 in
set_option maxRecDepth 100000 in
theorem c_X4_chestItem (l : Launch) (dC : Nat → ClassId) (dI : Nat → Nat → Nat) (cs : Nat → ClassId) (a : Nat → Nat) (b : Nat → Nat) (sz : Nat) (X : Tx) (T : Tw)  (res : Int32 × Tx × Tw) (hf : f_X4_chestItem X T = some res) : Met l yX4_chestItem wsX4_chestItem ({ frames := 3, cells := 0, slots := 0, locals := 62 }) (va_Pc [.ref (a 0), .ref (b 0)] (fun U => U.heap.size = sz ∧ va_P (dC, dI) vwCl (wX cs a X ++ wT cs b T) U.heap ∧ GE dC dI cs U ∧ va_D (fun _ => True) (wX cs a X ++ wT cs b T))) (va_Qi (fun r (u : Tx × Tw) => r = res.1 ∧ u = res.2 ∧ narrow .boolean (.int r) = .int r) (fun u t => va_P (dC, dI) vwCl ((fun u : Tx × Tw => (wX cs a u.1 ++ wT cs b u.2)) u) t.heap ∧ va_D (va_A (wX cs a X ++ wT cs b T) sz) ((fun u : Tx × Tw => (wX cs a u.1 ++ wT cs b u.2)) u)) (va_A (wX cs a X ++ wT cs b T) sz)) 0 0 (va_A (wX cs a X ++ wT cs b T) sz) := by
  refine Met.ofW (cc := cX4_chestItem) (maxL := 2) (ret := (some .boolean)) (by decide) rfl ?_
  intro p e s m args below meth c s₁ B hml hv
  obtain ⟨rfl, hsz, hP, G, hD0⟩ := hv
  have hts := atoms_spec (ws := wsX4_chestItem) B.pre
  have hown : s.vm.findClass RX4 = some m.cls := findClass_of_methodNamed B.named
  have hlocks := B.notSynchronized
  have hx := B.exec
  have hb := B.bytes
  have hr := B.returns
  have C : CallFix p m c cX4_chestItem 2 s _ wsX4_chestItem RX4 := ⟨hx, hb, hml, hown, hts⟩
  obtain ⟨hK, hN⟩ := id G
  subst hsz
  have hD := hD0.self (sz := s.heap.size)
  generalize hAe : va_A (wX cs a X ++ wT cs b T) s.heap.size = A at hD ⊢
  have hA : ∀ q : Nat, s.heap.size ≤ q → A q := fun q h => by rw [← hAe]; exact Or.inr h
  have hS : va_S A s.heap s.heap [] := va_S.rf
  have hR : RTz p l e ({ frames := 3, cells := 0, slots := 0, locals := 62 }) s m ([.ref (a 0), .ref (b 0)] : List Value).toArray below meth c cX4_chestItem (MQ below (va_Qi (fun r (u : Tx × Tw) => r = res.1 ∧ u = res.2 ∧ narrow .boolean (.int r) = .int r) (fun u t => va_P (dC, dI) vwCl ((fun u : Tx × Tw => (wX cs a u.1 ++ wT cs b u.2)) u) t.heap ∧ va_D A ((fun u : Tx × Tw => (wX cs a u.1 ++ wT cs b u.2)) u)) A) ([.ref (a 0), .ref (b 0)] : List Value).toArray s 0 0 A) (dC, dI) A (fun u : Tx × Tw => (wX cs a u.1 ++ wT cs b u.2)) res := fun H locs pc ls r u dd hn h hP hD hS => W.zret hx hb hr hn (fun t ht hW => ⟨⟨r, u, rfl, by cases h; exact ⟨rfl, rfl, hn⟩, by rw [ht]; exact hP, hD⟩, hS.F ht⟩) hS.2.2 dd
  have hl := lv_entry ([.ref (a 0), .ref (b 0)]) (n := 2) (Nat.le_of_ble_eq_true rfl)
  rw [lg_entry_eq]
  generalize (lg_sl ([.ref (a 0), .ref (b 0)]) ++ List.replicate (2 - (lg_sl ([.ref (a 0), .ref (b 0)])).length) Slot.unset).toArray = ls at hl ⊢
  have hl : lv_has ls 2 [(0, .ref (a 0)), (1, .ref (b 0))] := hl
  unfold f_X4_chestItem at hf
  refine lv_aload_n hx hb dX4_chestItem_0 rfl (lv_at hl 0 rfl) ?_
  refine lv_iconst (v := 0) hx hb dX4_chestItem_1 (by decide) ?_
  refine lv_ldc (v := 99999) hx hb hown (hts (.constant RX4 78 (99999)) (by decide +kernel)) dX4_chestItem_2 ?_
  obtain ⟨r4, hr4, hf⟩ := bn_e hf
  have hPc := hP.sub (ws' := (wX cs a X)) [0, 1] rfl
  have hDc := hD.sub (ws' := (wX cs a X)) [0, 1] (by decide) rfl
  have hFc := va_free (wc := (wX cs a X)) hD hS hA [0, 1] rfl
  refine va_calli (va_runV (As := [.int ((0 : Int32)), .int ((99999 : Int32))]) (rest := []) C (c_X4_numberWithin l dC dI cs a s.heap.size X (0 : Int32) (99999 : Int32) r4 hr4) (cwV 2 hts gX4_chestItem_X4_numberWithin rfl rfl rfl (by decide +kernel) ⟨Nat.le_of_ble_eq_true rfl, Nat.le_of_ble_eq_true rfl⟩) ⟨(fun a U g mk q => ⟨q.1, q.2.1, q.2.2.1, GE.calling q.2.2.2.1, q.2.2.2.2⟩), va_recv hK hPc (ci := 4) (q0 := 0) rfl rfl, (fun U hU hW => ⟨rfl, by rw [hU], by rw [hU]; exact hPc, GE.warm hW G, hDc.weaken (fun _ _ _ _ => trivial)⟩)⟩ rfl rfl hl.1 rfl (lv_room (Nat.le_of_ble_eq_true rfl)) dX4_chestItem_4 ⟨Nat.le_of_ble_eq_true rfl, Nat.le_of_ble_eq_true rfl⟩) hS (fun q _ h => hFc q h) hFc (fun q u t H1 locs ht hvm hw hB hz1 hk1 hS => ?_)
  obtain ⟨rfl, rfl, hnr4⟩ := hw
  obtain ⟨hP1, hD1⟩ := hB
  rw [ht] at hP1
  obtain ⟨hP, hD⟩ := va_join (wr := [2, 3, 4, 5, 6, 7, 8, 9, 10, 11, 12].filterMap (fun i => ((wX cs a X ++ wT cs b T))[i]?)) (w1 := (wX cs a r4.2)) hP hD [0, 1] [2, 3, 4, 5, 6, 7, 8, 9, 10, 11, 12] rfl rfl (by decide) (by decide) hk1 hFc hP1 hD1
  generalize H1 = H at hP hS ⊢
  have hP := hP.sub (ws' := (wX cs a r4.2 ++ wT cs b T)) [11, 12, 0, 1, 2, 3, 4, 5, 6, 7, 8, 9, 10] rfl
  have hD := hD.sub (ws' := (wX cs a r4.2 ++ wT cs b T)) [11, 12, 0, 1, 2, 3, 4, 5, 6, 7, 8, 9, 10] (by decide) rfl
  refine lv_if_ne (tgt := 12) hx hb dX4_chestItem_7 (by decide) (fun c1 => ?_) (fun c1 => ?_)
  · replace hf := it_f c1 hf
    refine lv_aload_n hx hb dX4_chestItem_12 rfl (lv_at hl 1 rfl) ?_
    refine lv_aload_n hx hb dX4_chestItem_13 rfl (lv_at hl 0 rfl) ?_
    refine va_get (D := (dC, dI)) (ci := 4) (v := .int ((r4.2.1 4))) (C := RX4) (T := TX4) (N := 6) hx hb hts in_X4_chestItem_X4 hown hK hP 0 rfl rfl 5 (by decide) (hts (.fieldLink RX4 83 "BackLoans$Text" "value" "I") (by decide +kernel)) (fun _ h9 => h9) rfl dX4_chestItem_14 ?_
    refine va_put (D := (dC, dI)) (ci := 5) (v := .int ((r4.2.1 4))) (ty := .int) (C := RX5) (T := TX5) (N := 17) hx hb hts in_X4_chestItem_X5 tyX5 tyX5_ok nmX5 hown hK hP hD hS 2 rfl rfl 0 (by decide) (hts (.fieldLink RX4 86 "BackLoans$Town" "chest" "I") (by decide +kernel)) (fun _ h9 => h9) rfl (by decide +kernel) rfl rfl (Nat.le_of_ble_eq_true rfl) dX4_chestItem_17 (fun H locs hP hD hS => ?_)
    obtain ⟨T_17, hP, hD, hf⟩ := st_nm (ws := fun T_17 : Tw => (wX cs a r4.2 ++ wT cs b T_17)) ((upd T.1 0 ((r4.2.1 4)), T.2)) hP hD hf
    refine lv_aload_n hx hb dX4_chestItem_20 rfl (lv_at hl 0 rfl) ?_
    obtain ⟨r21, hr21, hf⟩ := bn_e hf
    have hPc := hP.sub (ws' := (wX cs a r4.2)) [0, 1] rfl
    have hDc := hD.sub (ws' := (wX cs a r4.2)) [0, 1] (by decide) rfl
    have hFc := va_free (wc := (wX cs a r4.2)) hD hS hA [0, 1] rfl
    refine va_calli (va_runV (As := []) (rest := []) C (c_X4_itemEnds l dC dI cs a H.size r4.2 r21 hr21) (cwV 0 hts gX4_chestItem_X4_itemEnds rfl rfl rfl (by decide +kernel) ⟨Nat.le_of_ble_eq_true rfl, Nat.le_of_ble_eq_true rfl⟩) ⟨(fun a U g mk q => ⟨q.1, q.2.1, q.2.2.1, GE.calling q.2.2.2.1, q.2.2.2.2⟩), va_recv hK hPc (ci := 4) (q0 := 0) rfl rfl, (fun U hU hW => ⟨rfl, by rw [hU], by rw [hU]; exact hPc, GE.warm hW G, hDc.weaken (fun _ _ _ _ => trivial)⟩)⟩ rfl rfl hl.1 rfl (lv_room (Nat.le_of_ble_eq_true rfl)) dX4_chestItem_21 ⟨Nat.le_of_ble_eq_true rfl, Nat.le_of_ble_eq_true rfl⟩) hS (fun q _ h => hFc q h) hFc (fun q u t H1 locs ht hvm hw hB hz1 hk1 hS => ?_)
    obtain ⟨rfl, rfl, hnr21⟩ := hw
    obtain ⟨hP1, hD1⟩ := hB
    rw [ht] at hP1
    obtain ⟨hP, hD⟩ := va_join (wr := [2, 3, 4, 5, 6, 7, 8, 9, 10, 11, 12].filterMap (fun i => ((wX cs a r4.2 ++ wT cs b T_17))[i]?)) (w1 := (wX cs a r21.2)) hP hD [0, 1] [2, 3, 4, 5, 6, 7, 8, 9, 10, 11, 12] rfl rfl (by decide) (by decide) hk1 hFc hP1 hD1
    generalize H1 = H at hP hS ⊢
    have hP := hP.sub (ws' := (wX cs a r21.2 ++ wT cs b T_17)) [11, 12, 0, 1, 2, 3, 4, 5, 6, 7, 8, 9, 10] rfl
    have hD := hD.sub (ws' := (wX cs a r21.2 ++ wT cs b T_17)) [11, 12, 0, 1, 2, 3, 4, 5, 6, 7, 8, 9, 10] (by decide) rfl
    exact hR _ _ _ _ _ _ dX4_chestItem_24 hnr21 hf hP hD hS
  · replace hf := it_t c1 hf
    refine lv_iconst (v := 0) hx hb dX4_chestItem_10 (by decide) ?_
    exact hR _ _ _ _ _ _ dX4_chestItem_11 (by decide) hf hP hD hS

theorem in_X4_rateItem_X4 : ∀ w ∈ wsX40, w ∈ wsX4_rateItem := by decide +kernel
theorem in_X4_rateItem_X5 : ∀ w ∈ wsX50, w ∈ wsX4_rateItem := by decide +kernel
def f_X4_rateItem  (X : Tx) (T : Tw) : Option (Int32 × Tx × Tw) :=
  bn (f_X4_numberWithin (0 : Int32) (50 : Int32) X) fun r4 =>
  if r4.1 = 0 then (
    some ((0 : Int32), (r4.2, T))
  ) else (
    lett ((upd T.1 1 ((r4.2.1 4)), T.2)) fun T_17 =>
    bn (f_X4_itemEnds r4.2) fun r21 =>
    some (r21.1, (r21.2, T_17))
  )
set_option maxHeartbeats 4000000 in
set_option maxRecDepth 100000 in
theorem c_X4_rateItem (l : Launch) (dC : Nat → ClassId) (dI : Nat → Nat → Nat) (cs : Nat → ClassId) (a : Nat → Nat) (b : Nat → Nat) (sz : Nat) (X : Tx) (T : Tw)  (res : Int32 × Tx × Tw) (hf : f_X4_rateItem X T = some res) : Met l yX4_rateItem wsX4_rateItem ({ frames := 3, cells := 0, slots := 0, locals := 62 }) (va_Pc [.ref (a 0), .ref (b 0)] (fun U => U.heap.size = sz ∧ va_P (dC, dI) vwCl (wX cs a X ++ wT cs b T) U.heap ∧ GE dC dI cs U ∧ va_D (fun _ => True) (wX cs a X ++ wT cs b T))) (va_Qi (fun r (u : Tx × Tw) => r = res.1 ∧ u = res.2 ∧ narrow .boolean (.int r) = .int r) (fun u t => va_P (dC, dI) vwCl ((fun u : Tx × Tw => (wX cs a u.1 ++ wT cs b u.2)) u) t.heap ∧ va_D (va_A (wX cs a X ++ wT cs b T) sz) ((fun u : Tx × Tw => (wX cs a u.1 ++ wT cs b u.2)) u)) (va_A (wX cs a X ++ wT cs b T) sz)) 0 0 (va_A (wX cs a X ++ wT cs b T) sz) := by
  refine Met.ofW (cc := cX4_rateItem) (maxL := 2) (ret := (some .boolean)) (by decide) rfl ?_
  intro p e s m args below meth c s₁ B hml hv
  obtain ⟨rfl, hsz, hP, G, hD0⟩ := hv
  have hts := atoms_spec (ws := wsX4_rateItem) B.pre
  have hown : s.vm.findClass RX4 = some m.cls := findClass_of_methodNamed B.named
  have hlocks := B.notSynchronized
  have hx := B.exec
  have hb := B.bytes
  have hr := B.returns
  have C : CallFix p m c cX4_rateItem 2 s _ wsX4_rateItem RX4 := ⟨hx, hb, hml, hown, hts⟩
  obtain ⟨hK, hN⟩ := id G
  subst hsz
  have hD := hD0.self (sz := s.heap.size)
  generalize hAe : va_A (wX cs a X ++ wT cs b T) s.heap.size = A at hD ⊢
  have hA : ∀ q : Nat, s.heap.size ≤ q → A q := fun q h => by rw [← hAe]; exact Or.inr h
  have hS : va_S A s.heap s.heap [] := va_S.rf
  have hR : RTz p l e ({ frames := 3, cells := 0, slots := 0, locals := 62 }) s m ([.ref (a 0), .ref (b 0)] : List Value).toArray below meth c cX4_rateItem (MQ below (va_Qi (fun r (u : Tx × Tw) => r = res.1 ∧ u = res.2 ∧ narrow .boolean (.int r) = .int r) (fun u t => va_P (dC, dI) vwCl ((fun u : Tx × Tw => (wX cs a u.1 ++ wT cs b u.2)) u) t.heap ∧ va_D A ((fun u : Tx × Tw => (wX cs a u.1 ++ wT cs b u.2)) u)) A) ([.ref (a 0), .ref (b 0)] : List Value).toArray s 0 0 A) (dC, dI) A (fun u : Tx × Tw => (wX cs a u.1 ++ wT cs b u.2)) res := fun H locs pc ls r u dd hn h hP hD hS => W.zret hx hb hr hn (fun t ht hW => ⟨⟨r, u, rfl, by cases h; exact ⟨rfl, rfl, hn⟩, by rw [ht]; exact hP, hD⟩, hS.F ht⟩) hS.2.2 dd
  have hl := lv_entry ([.ref (a 0), .ref (b 0)]) (n := 2) (Nat.le_of_ble_eq_true rfl)
  rw [lg_entry_eq]
  generalize (lg_sl ([.ref (a 0), .ref (b 0)]) ++ List.replicate (2 - (lg_sl ([.ref (a 0), .ref (b 0)])).length) Slot.unset).toArray = ls at hl ⊢
  have hl : lv_has ls 2 [(0, .ref (a 0)), (1, .ref (b 0))] := hl
  unfold f_X4_rateItem at hf
  refine lv_aload_n hx hb dX4_rateItem_0 rfl (lv_at hl 0 rfl) ?_
  refine lv_iconst (v := 0) hx hb dX4_rateItem_1 (by decide) ?_
  refine lv_bipush (v := 50) hx hb dX4_rateItem_2 (by decide) ?_
  obtain ⟨r4, hr4, hf⟩ := bn_e hf
  have hPc := hP.sub (ws' := (wX cs a X)) [0, 1] rfl
  have hDc := hD.sub (ws' := (wX cs a X)) [0, 1] (by decide) rfl
  have hFc := va_free (wc := (wX cs a X)) hD hS hA [0, 1] rfl
  refine va_calli (va_runV (As := [.int ((0 : Int32)), .int ((50 : Int32))]) (rest := []) C (c_X4_numberWithin l dC dI cs a s.heap.size X (0 : Int32) (50 : Int32) r4 hr4) (cwV 2 hts gX4_rateItem_X4_numberWithin rfl rfl rfl (by decide +kernel) ⟨Nat.le_of_ble_eq_true rfl, Nat.le_of_ble_eq_true rfl⟩) ⟨(fun a U g mk q => ⟨q.1, q.2.1, q.2.2.1, GE.calling q.2.2.2.1, q.2.2.2.2⟩), va_recv hK hPc (ci := 4) (q0 := 0) rfl rfl, (fun U hU hW => ⟨rfl, by rw [hU], by rw [hU]; exact hPc, GE.warm hW G, hDc.weaken (fun _ _ _ _ => trivial)⟩)⟩ rfl rfl hl.1 rfl (lv_room (Nat.le_of_ble_eq_true rfl)) dX4_rateItem_4 ⟨Nat.le_of_ble_eq_true rfl, Nat.le_of_ble_eq_true rfl⟩) hS (fun q _ h => hFc q h) hFc (fun q u t H1 locs ht hvm hw hB hz1 hk1 hS => ?_)
  obtain ⟨rfl, rfl, hnr4⟩ := hw
  obtain ⟨hP1, hD1⟩ := hB
  rw [ht] at hP1
  obtain ⟨hP, hD⟩ := va_join (wr := [2, 3, 4, 5, 6, 7, 8, 9, 10, 11, 12].filterMap (fun i => ((wX cs a X ++ wT cs b T))[i]?)) (w1 := (wX cs a r4.2)) hP hD [0, 1] [2, 3, 4, 5, 6, 7, 8, 9, 10, 11, 12] rfl rfl (by decide) (by decide) hk1 hFc hP1 hD1
  generalize H1 = H at hP hS ⊢
  have hP := hP.sub (ws' := (wX cs a r4.2 ++ wT cs b T)) [11, 12, 0, 1, 2, 3, 4, 5, 6, 7, 8, 9, 10] rfl
  have hD := hD.sub (ws' := (wX cs a r4.2 ++ wT cs b T)) [11, 12, 0, 1, 2, 3, 4, 5, 6, 7, 8, 9, 10] (by decide) rfl
  refine lv_if_ne (tgt := 12) hx hb dX4_rateItem_7 (by decide) (fun c1 => ?_) (fun c1 => ?_)
  · replace hf := it_f c1 hf
    refine lv_aload_n hx hb dX4_rateItem_12 rfl (lv_at hl 1 rfl) ?_
    refine lv_aload_n hx hb dX4_rateItem_13 rfl (lv_at hl 0 rfl) ?_
    refine va_get (D := (dC, dI)) (ci := 4) (v := .int ((r4.2.1 4))) (C := RX4) (T := TX4) (N := 6) hx hb hts in_X4_rateItem_X4 hown hK hP 0 rfl rfl 5 (by decide) (hts (.fieldLink RX4 83 "BackLoans$Text" "value" "I") (by decide +kernel)) (fun _ h9 => h9) rfl dX4_rateItem_14 ?_
    refine va_put (D := (dC, dI)) (ci := 5) (v := .int ((r4.2.1 4))) (ty := .int) (C := RX5) (T := TX5) (N := 17) hx hb hts in_X4_rateItem_X5 tyX5 tyX5_ok nmX5 hown hK hP hD hS 2 rfl rfl 1 (by decide) (hts (.fieldLink RX4 92 "BackLoans$Town" "rate" "I") (by decide +kernel)) (fun _ h9 => h9) rfl (by decide +kernel) rfl rfl (Nat.le_of_ble_eq_true rfl) dX4_rateItem_17 (fun H locs hP hD hS => ?_)
    obtain ⟨T_17, hP, hD, hf⟩ := st_nm (ws := fun T_17 : Tw => (wX cs a r4.2 ++ wT cs b T_17)) ((upd T.1 1 ((r4.2.1 4)), T.2)) hP hD hf
    refine lv_aload_n hx hb dX4_rateItem_20 rfl (lv_at hl 0 rfl) ?_
    obtain ⟨r21, hr21, hf⟩ := bn_e hf
    have hPc := hP.sub (ws' := (wX cs a r4.2)) [0, 1] rfl
    have hDc := hD.sub (ws' := (wX cs a r4.2)) [0, 1] (by decide) rfl
    have hFc := va_free (wc := (wX cs a r4.2)) hD hS hA [0, 1] rfl
    refine va_calli (va_runV (As := []) (rest := []) C (c_X4_itemEnds l dC dI cs a H.size r4.2 r21 hr21) (cwV 0 hts gX4_rateItem_X4_itemEnds rfl rfl rfl (by decide +kernel) ⟨Nat.le_of_ble_eq_true rfl, Nat.le_of_ble_eq_true rfl⟩) ⟨(fun a U g mk q => ⟨q.1, q.2.1, q.2.2.1, GE.calling q.2.2.2.1, q.2.2.2.2⟩), va_recv hK hPc (ci := 4) (q0 := 0) rfl rfl, (fun U hU hW => ⟨rfl, by rw [hU], by rw [hU]; exact hPc, GE.warm hW G, hDc.weaken (fun _ _ _ _ => trivial)⟩)⟩ rfl rfl hl.1 rfl (lv_room (Nat.le_of_ble_eq_true rfl)) dX4_rateItem_21 ⟨Nat.le_of_ble_eq_true rfl, Nat.le_of_ble_eq_true rfl⟩) hS (fun q _ h => hFc q h) hFc (fun q u t H1 locs ht hvm hw hB hz1 hk1 hS => ?_)
    obtain ⟨rfl, rfl, hnr21⟩ := hw
    obtain ⟨hP1, hD1⟩ := hB
    rw [ht] at hP1
    obtain ⟨hP, hD⟩ := va_join (wr := [2, 3, 4, 5, 6, 7, 8, 9, 10, 11, 12].filterMap (fun i => ((wX cs a r4.2 ++ wT cs b T_17))[i]?)) (w1 := (wX cs a r21.2)) hP hD [0, 1] [2, 3, 4, 5, 6, 7, 8, 9, 10, 11, 12] rfl rfl (by decide) (by decide) hk1 hFc hP1 hD1
    generalize H1 = H at hP hS ⊢
    have hP := hP.sub (ws' := (wX cs a r21.2 ++ wT cs b T_17)) [11, 12, 0, 1, 2, 3, 4, 5, 6, 7, 8, 9, 10] rfl
    have hD := hD.sub (ws' := (wX cs a r21.2 ++ wT cs b T_17)) [11, 12, 0, 1, 2, 3, 4, 5, 6, 7, 8, 9, 10] (by decide) rfl
    exact hR _ _ _ _ _ _ dX4_rateItem_24 hnr21 hf hP hD hS
  · replace hf := it_t c1 hf
    refine lv_iconst (v := 0) hx hb dX4_rateItem_10 (by decide) ?_
    exact hR _ _ _ _ _ _ dX4_rateItem_11 (by decide) hf hP hD hS

theorem in_X4_personItem_X4 : ∀ w ∈ wsX40, w ∈ wsX4_personItem := by decide +kernel
def f_X4_personItem  (X : Tx) (T : Tw) : Option (Int32 × Tx × Tw) :=
  bn (f_X4_numberWithin (0 : Int32) (5 : Int32) X) fun r3 =>
  if r3.1 = 0 then (
    some ((0 : Int32), (r3.2, T))
  ) else (
    bn (f_X4_numberWithin (0 : Int32) (99 : Int32) r3.2) fun r20 =>
    if r20.1 = 0 then (
      some ((0 : Int32), (r20.2, T))
    ) else (
      bn (f_X4_numberWithin (0 : Int32) (9999 : Int32) r20.2) fun r38 =>
      if r38.1 = 0 then (
        some ((0 : Int32), (r38.2, T))
      ) else (
        bn (f_X5_addPerson (r3.2.1 4) (r20.2.1 4) (r38.2.1 4) T) fun r53 =>
        bn (f_X4_itemEnds r38.2) fun r58 =>
        some (r58.1, (r58.2, r53.2))
      )
    )
  )
set_option maxHeartbeats 4000000 in
set_option maxRecDepth 100000 in
theorem c_X4_personItem (l : Launch) (dC : Nat → ClassId) (dI : Nat → Nat → Nat) (cs : Nat → ClassId) (a : Nat → Nat) (b : Nat → Nat) (sz : Nat) (X : Tx) (T : Tw)  (res : Int32 × Tx × Tw) (hf : f_X4_personItem X T = some res) : Met l yX4_personItem wsX4_personItem ({ frames := 3, cells := 0, slots := 0, locals := 62 }) (va_Pc [.ref (a 0), .ref (b 0)] (fun U => U.heap.size = sz ∧ va_P (dC, dI) vwCl (wX cs a X ++ wT cs b T) U.heap ∧ GE dC dI cs U ∧ va_D (fun _ => True) (wX cs a X ++ wT cs b T))) (va_Qi (fun r (u : Tx × Tw) => r = res.1 ∧ u = res.2 ∧ narrow .boolean (.int r) = .int r) (fun u t => va_P (dC, dI) vwCl ((fun u : Tx × Tw => (wX cs a u.1 ++ wT cs b u.2)) u) t.heap ∧ va_D (va_A (wX cs a X ++ wT cs b T) sz) ((fun u : Tx × Tw => (wX cs a u.1 ++ wT cs b u.2)) u)) (va_A (wX cs a X ++ wT cs b T) sz)) 0 0 (va_A (wX cs a X ++ wT cs b T) sz) := by
  refine Met.ofW (cc := cX4_personItem) (maxL := 4) (ret := (some .boolean)) (by decide) rfl ?_
  intro p e s m args below meth c s₁ B hml hv
  obtain ⟨rfl, hsz, hP, G, hD0⟩ := hv
  have hts := atoms_spec (ws := wsX4_personItem) B.pre
  have hown : s.vm.findClass RX4 = some m.cls := findClass_of_methodNamed B.named
  have hlocks := B.notSynchronized
  have hx := B.exec
  have hb := B.bytes
  have hr := B.returns
  have C : CallFix p m c cX4_personItem 4 s _ wsX4_personItem RX4 := ⟨hx, hb, hml, hown, hts⟩
  obtain ⟨hK, hN⟩ := id G
  subst hsz
  have hD := hD0.self (sz := s.heap.size)
  generalize hAe : va_A (wX cs a X ++ wT cs b T) s.heap.size = A at hD ⊢
  have hA : ∀ q : Nat, s.heap.size ≤ q → A q := fun q h => by rw [← hAe]; exact Or.inr h
  have hS : va_S A s.heap s.heap [] := va_S.rf
  have hR : RTz p l e ({ frames := 3, cells := 0, slots := 0, locals := 62 }) s m ([.ref (a 0), .ref (b 0)] : List Value).toArray below meth c cX4_personItem (MQ below (va_Qi (fun r (u : Tx × Tw) => r = res.1 ∧ u = res.2 ∧ narrow .boolean (.int r) = .int r) (fun u t => va_P (dC, dI) vwCl ((fun u : Tx × Tw => (wX cs a u.1 ++ wT cs b u.2)) u) t.heap ∧ va_D A ((fun u : Tx × Tw => (wX cs a u.1 ++ wT cs b u.2)) u)) A) ([.ref (a 0), .ref (b 0)] : List Value).toArray s 0 0 A) (dC, dI) A (fun u : Tx × Tw => (wX cs a u.1 ++ wT cs b u.2)) res := fun H locs pc ls r u dd hn h hP hD hS => W.zret hx hb hr hn (fun t ht hW => ⟨⟨r, u, rfl, by cases h; exact ⟨rfl, rfl, hn⟩, by rw [ht]; exact hP, hD⟩, hS.F ht⟩) hS.2.2 dd
  have hl := lv_entry ([.ref (a 0), .ref (b 0)]) (n := 4) (Nat.le_of_ble_eq_true rfl)
  rw [lg_entry_eq]
  generalize (lg_sl ([.ref (a 0), .ref (b 0)]) ++ List.replicate (4 - (lg_sl ([.ref (a 0), .ref (b 0)])).length) Slot.unset).toArray = ls at hl ⊢
  have hl : lv_has ls 4 [(0, .ref (a 0)), (1, .ref (b 0))] := hl
  unfold f_X4_personItem at hf
  refine lv_aload_n hx hb dX4_personItem_0 rfl (lv_at hl 0 rfl) ?_
  refine lv_iconst (v := 0) hx hb dX4_personItem_1 (by decide) ?_
  refine lv_iconst (v := 5) hx hb dX4_personItem_2 (by decide) ?_
  obtain ⟨r3, hr3, hf⟩ := bn_e hf
  have hPc := hP.sub (ws' := (wX cs a X)) [0, 1] rfl
  have hDc := hD.sub (ws' := (wX cs a X)) [0, 1] (by decide) rfl
  have hFc := va_free (wc := (wX cs a X)) hD hS hA [0, 1] rfl
  refine va_calli (va_runV (As := [.int ((0 : Int32)), .int ((5 : Int32))]) (rest := []) C (c_X4_numberWithin l dC dI cs a s.heap.size X (0 : Int32) (5 : Int32) r3 hr3) (cwV 2 hts gX4_personItem_X4_numberWithin rfl rfl rfl (by decide +kernel) ⟨Nat.le_of_ble_eq_true rfl, Nat.le_of_ble_eq_true rfl⟩) ⟨(fun a U g mk q => ⟨q.1, q.2.1, q.2.2.1, GE.calling q.2.2.2.1, q.2.2.2.2⟩), va_recv hK hPc (ci := 4) (q0 := 0) rfl rfl, (fun U hU hW => ⟨rfl, by rw [hU], by rw [hU]; exact hPc, GE.warm hW G, hDc.weaken (fun _ _ _ _ => trivial)⟩)⟩ rfl rfl hl.1 rfl (lv_room (Nat.le_of_ble_eq_true rfl)) dX4_personItem_3 ⟨Nat.le_of_ble_eq_true rfl, Nat.le_of_ble_eq_true rfl⟩) hS (fun q _ h => hFc q h) hFc (fun q u t H1 locs ht hvm hw hB hz1 hk1 hS => ?_)
  obtain ⟨rfl, rfl, hnr3⟩ := hw
  obtain ⟨hP1, hD1⟩ := hB
  rw [ht] at hP1
  obtain ⟨hP, hD⟩ := va_join (wr := [2, 3, 4, 5, 6, 7, 8, 9, 10, 11, 12].filterMap (fun i => ((wX cs a X ++ wT cs b T))[i]?)) (w1 := (wX cs a r3.2)) hP hD [0, 1] [2, 3, 4, 5, 6, 7, 8, 9, 10, 11, 12] rfl rfl (by decide) (by decide) hk1 hFc hP1 hD1
  generalize H1 = H at hP hS ⊢
  have hP := hP.sub (ws' := (wX cs a r3.2 ++ wT cs b T)) [11, 12, 0, 1, 2, 3, 4, 5, 6, 7, 8, 9, 10] rfl
  have hD := hD.sub (ws' := (wX cs a r3.2 ++ wT cs b T)) [11, 12, 0, 1, 2, 3, 4, 5, 6, 7, 8, 9, 10] (by decide) rfl
  refine lv_if_ne (tgt := 11) hx hb dX4_personItem_6 (by decide) (fun c1 => ?_) (fun c1 => ?_)
  · replace hf := it_f c1 hf
    refine lv_aload_n hx hb dX4_personItem_11 rfl (lv_at hl 0 rfl) ?_
    refine va_get (D := (dC, dI)) (ci := 4) (v := .int ((r3.2.1 4))) (C := RX4) (T := TX4) (N := 6) hx hb hts in_X4_personItem_X4 hown hK hP 0 rfl rfl 5 (by decide) (hts (.fieldLink RX4 83 "BackLoans$Text" "value" "I") (by decide +kernel)) (fun _ h9 => h9) rfl dX4_personItem_12 ?_
    refine lv_istore_n (lv' := [(2, .int ((r3.2.1 4))), (0, .ref (a 0)), (1, .ref (b 0))]) hx hb dX4_personItem_15 rfl hl (by decide) rfl (fun ls hl => ?_)
    refine lv_aload_n hx hb dX4_personItem_16 rfl (lv_at hl 1 rfl) ?_
    refine lv_iconst (v := 0) hx hb dX4_personItem_17 (by decide) ?_
    refine lv_bipush (v := 99) hx hb dX4_personItem_18 (by decide) ?_
    obtain ⟨r20, hr20, hf⟩ := bn_e hf
    have hPc := hP.sub (ws' := (wX cs a r3.2)) [0, 1] rfl
    have hDc := hD.sub (ws' := (wX cs a r3.2)) [0, 1] (by decide) rfl
    have hFc := va_free (wc := (wX cs a r3.2)) hD hS hA [0, 1] rfl
    refine va_calli (va_runV (As := [.int ((0 : Int32)), .int ((99 : Int32))]) (rest := []) C (c_X4_numberWithin l dC dI cs a H.size r3.2 (0 : Int32) (99 : Int32) r20 hr20) (cwV 2 hts gX4_personItem_X4_numberWithin rfl rfl rfl (by decide +kernel) ⟨Nat.le_of_ble_eq_true rfl, Nat.le_of_ble_eq_true rfl⟩) ⟨(fun a U g mk q => ⟨q.1, q.2.1, q.2.2.1, GE.calling q.2.2.2.1, q.2.2.2.2⟩), va_recv hK hPc (ci := 4) (q0 := 0) rfl rfl, (fun U hU hW => ⟨rfl, by rw [hU], by rw [hU]; exact hPc, GE.warm hW G, hDc.weaken (fun _ _ _ _ => trivial)⟩)⟩ rfl rfl hl.1 rfl (lv_room (Nat.le_of_ble_eq_true rfl)) dX4_personItem_20 ⟨Nat.le_of_ble_eq_true rfl, Nat.le_of_ble_eq_true rfl⟩) hS (fun q _ h => hFc q h) hFc (fun q u t H1 locs ht hvm hw hB hz1 hk1 hS => ?_)
    obtain ⟨rfl, rfl, hnr20⟩ := hw
    obtain ⟨hP1, hD1⟩ := hB
    rw [ht] at hP1
    obtain ⟨hP, hD⟩ := va_join (wr := [2, 3, 4, 5, 6, 7, 8, 9, 10, 11, 12].filterMap (fun i => ((wX cs a r3.2 ++ wT cs b T))[i]?)) (w1 := (wX cs a r20.2)) hP hD [0, 1] [2, 3, 4, 5, 6, 7, 8, 9, 10, 11, 12] rfl rfl (by decide) (by decide) hk1 hFc hP1 hD1
    generalize H1 = H at hP hS ⊢
    have hP := hP.sub (ws' := (wX cs a r20.2 ++ wT cs b T)) [11, 12, 0, 1, 2, 3, 4, 5, 6, 7, 8, 9, 10] rfl
    have hD := hD.sub (ws' := (wX cs a r20.2 ++ wT cs b T)) [11, 12, 0, 1, 2, 3, 4, 5, 6, 7, 8, 9, 10] (by decide) rfl
    refine lv_if_ne (tgt := 28) hx hb dX4_personItem_23 (by decide) (fun c2 => ?_) (fun c2 => ?_)
    · replace hf := it_f c2 hf
      refine lv_aload_n hx hb dX4_personItem_28 rfl (lv_at hl 1 rfl) ?_
      refine va_get (D := (dC, dI)) (ci := 4) (v := .int ((r20.2.1 4))) (C := RX4) (T := TX4) (N := 6) hx hb hts in_X4_personItem_X4 hown hK hP 0 rfl rfl 5 (by decide) (hts (.fieldLink RX4 83 "BackLoans$Text" "value" "I") (by decide +kernel)) (fun _ h9 => h9) rfl dX4_personItem_29 ?_
      refine lv_istore_n (lv' := [(3, .int ((r20.2.1 4))), (2, .int ((r3.2.1 4))), (0, .ref (a 0)), (1, .ref (b 0))]) hx hb dX4_personItem_32 rfl hl (by decide) rfl (fun ls hl => ?_)
      refine lv_aload_n hx hb dX4_personItem_33 rfl (lv_at hl 2 rfl) ?_
      refine lv_iconst (v := 0) hx hb dX4_personItem_34 (by decide) ?_
      refine lv_sipush (v := 9999) hx hb dX4_personItem_35 (by decide) ?_
      obtain ⟨r38, hr38, hf⟩ := bn_e hf
      have hPc := hP.sub (ws' := (wX cs a r20.2)) [0, 1] rfl
      have hDc := hD.sub (ws' := (wX cs a r20.2)) [0, 1] (by decide) rfl
      have hFc := va_free (wc := (wX cs a r20.2)) hD hS hA [0, 1] rfl
      refine va_calli (va_runV (As := [.int ((0 : Int32)), .int ((9999 : Int32))]) (rest := []) C (c_X4_numberWithin l dC dI cs a H.size r20.2 (0 : Int32) (9999 : Int32) r38 hr38) (cwV 2 hts gX4_personItem_X4_numberWithin rfl rfl rfl (by decide +kernel) ⟨Nat.le_of_ble_eq_true rfl, Nat.le_of_ble_eq_true rfl⟩) ⟨(fun a U g mk q => ⟨q.1, q.2.1, q.2.2.1, GE.calling q.2.2.2.1, q.2.2.2.2⟩), va_recv hK hPc (ci := 4) (q0 := 0) rfl rfl, (fun U hU hW => ⟨rfl, by rw [hU], by rw [hU]; exact hPc, GE.warm hW G, hDc.weaken (fun _ _ _ _ => trivial)⟩)⟩ rfl rfl hl.1 rfl (lv_room (Nat.le_of_ble_eq_true rfl)) dX4_personItem_38 ⟨Nat.le_of_ble_eq_true rfl, Nat.le_of_ble_eq_true rfl⟩) hS (fun q _ h => hFc q h) hFc (fun q u t H1 locs ht hvm hw hB hz1 hk1 hS => ?_)
      obtain ⟨rfl, rfl, hnr38⟩ := hw
      obtain ⟨hP1, hD1⟩ := hB
      rw [ht] at hP1
      obtain ⟨hP, hD⟩ := va_join (wr := [2, 3, 4, 5, 6, 7, 8, 9, 10, 11, 12].filterMap (fun i => ((wX cs a r20.2 ++ wT cs b T))[i]?)) (w1 := (wX cs a r38.2)) hP hD [0, 1] [2, 3, 4, 5, 6, 7, 8, 9, 10, 11, 12] rfl rfl (by decide) (by decide) hk1 hFc hP1 hD1
      generalize H1 = H at hP hS ⊢
      have hP := hP.sub (ws' := (wX cs a r38.2 ++ wT cs b T)) [11, 12, 0, 1, 2, 3, 4, 5, 6, 7, 8, 9, 10] rfl
      have hD := hD.sub (ws' := (wX cs a r38.2 ++ wT cs b T)) [11, 12, 0, 1, 2, 3, 4, 5, 6, 7, 8, 9, 10] (by decide) rfl
      refine lv_if_ne (tgt := 46) hx hb dX4_personItem_41 (by decide) (fun c3 => ?_) (fun c3 => ?_)
      · replace hf := it_f c3 hf
        refine lv_aload_n hx hb dX4_personItem_46 rfl (lv_at hl 3 rfl) ?_
        refine lv_iload_n hx hb dX4_personItem_47 rfl (lv_at hl 1 rfl) ?_
        refine lv_iload_n hx hb dX4_personItem_48 rfl (lv_at hl 0 rfl) ?_
        refine lv_aload_n hx hb dX4_personItem_49 rfl (lv_at hl 2 rfl) ?_
        refine va_get (D := (dC, dI)) (ci := 4) (v := .int ((r38.2.1 4))) (C := RX4) (T := TX4) (N := 6) hx hb hts in_X4_personItem_X4 hown hK hP 0 rfl rfl 5 (by decide) (hts (.fieldLink RX4 83 "BackLoans$Text" "value" "I") (by decide +kernel)) (fun _ h9 => h9) rfl dX4_personItem_50 ?_
        obtain ⟨r53, hr53, hf⟩ := bn_e hf
        have hPc := hP.sub (ws' := (wT cs b T)) [2, 3, 4, 5, 6, 7, 8, 9, 10, 11, 12] rfl
        have hDc := hD.sub (ws' := (wT cs b T)) [2, 3, 4, 5, 6, 7, 8, 9, 10, 11, 12] (by decide) rfl
        have hFc := va_free (wc := (wT cs b T)) hD hS hA [2, 3, 4, 5, 6, 7, 8, 9, 10, 11, 12] rfl
        refine va_calli (va_runV (As := [.int ((r3.2.1 4)), .int ((r20.2.1 4)), .int ((r38.2.1 4))]) (rest := []) C (c_X5_addPerson l dC dI cs b H.size T (r3.2.1 4) (r20.2.1 4) (r38.2.1 4) r53 hr53) (cwV 3 hts gX4_personItem_X5_addPerson rfl rfl rfl (by decide +kernel) ⟨Nat.le_of_ble_eq_true rfl, Nat.le_of_ble_eq_true rfl⟩) ⟨(fun a U g mk q => ⟨q.1, q.2.1, q.2.2.1, GE.calling q.2.2.2.1, q.2.2.2.2⟩), va_recv hK hPc (ci := 5) (q0 := 0) rfl rfl, (fun U hU hW => ⟨rfl, by rw [hU], by rw [hU]; exact hPc, GE.warm hW G, hDc.weaken (fun _ _ _ _ => trivial)⟩)⟩ rfl rfl hl.1 rfl (lv_room (Nat.le_of_ble_eq_true rfl)) dX4_personItem_53 ⟨Nat.le_of_ble_eq_true rfl, Nat.le_of_ble_eq_true rfl⟩) hS (fun q _ h => hFc q h) hFc (fun q u t H1 locs ht hvm hw hB hz1 hk1 hS => ?_)
        obtain ⟨rfl, rfl⟩ := hw
        obtain ⟨hP1, hD1⟩ := hB
        rw [ht] at hP1
        obtain ⟨hP, hD⟩ := va_join (wr := [0, 1].filterMap (fun i => ((wX cs a r38.2 ++ wT cs b T))[i]?)) (w1 := (wT cs b r53.2)) hP hD [2, 3, 4, 5, 6, 7, 8, 9, 10, 11, 12] [0, 1] rfl rfl (by decide) (by decide) hk1 hFc hP1 hD1
        generalize H1 = H at hP hS ⊢
        have hP := hP.sub (ws' := (wX cs a r38.2 ++ wT cs b r53.2)) [0, 1, 2, 3, 4, 5, 6, 7, 8, 9, 10, 11, 12] rfl
        have hD := hD.sub (ws' := (wX cs a r38.2 ++ wT cs b r53.2)) [0, 1, 2, 3, 4, 5, 6, 7, 8, 9, 10, 11, 12] (by decide) rfl
        refine lv_pop hx hb dX4_personItem_56 rfl ?_
        refine lv_aload_n hx hb dX4_personItem_57 rfl (lv_at hl 2 rfl) ?_
        obtain ⟨r58, hr58, hf⟩ := bn_e hf
        have hPc := hP.sub (ws' := (wX cs a r38.2)) [0, 1] rfl
        have hDc := hD.sub (ws' := (wX cs a r38.2)) [0, 1] (by decide) rfl
        have hFc := va_free (wc := (wX cs a r38.2)) hD hS hA [0, 1] rfl
        refine va_calli (va_runV (As := []) (rest := []) C (c_X4_itemEnds l dC dI cs a H.size r38.2 r58 hr58) (cwV 0 hts gX4_personItem_X4_itemEnds rfl rfl rfl (by decide +kernel) ⟨Nat.le_of_ble_eq_true rfl, Nat.le_of_ble_eq_true rfl⟩) ⟨(fun a U g mk q => ⟨q.1, q.2.1, q.2.2.1, GE.calling q.2.2.2.1, q.2.2.2.2⟩), va_recv hK hPc (ci := 4) (q0 := 0) rfl rfl, (fun U hU hW => ⟨rfl, by rw [hU], by rw [hU]; exact hPc, GE.warm hW G, hDc.weaken (fun _ _ _ _ => trivial)⟩)⟩ rfl rfl hl.1 rfl (lv_room (Nat.le_of_ble_eq_true rfl)) dX4_personItem_58 ⟨Nat.le_of_ble_eq_true rfl, Nat.le_of_ble_eq_true rfl⟩) hS (fun q _ h => hFc q h) hFc (fun q u t H1 locs ht hvm hw hB hz1 hk1 hS => ?_)
        obtain ⟨rfl, rfl, hnr58⟩ := hw
        obtain ⟨hP1, hD1⟩ := hB
        rw [ht] at hP1
        obtain ⟨hP, hD⟩ := va_join (wr := [2, 3, 4, 5, 6, 7, 8, 9, 10, 11, 12].filterMap (fun i => ((wX cs a r38.2 ++ wT cs b r53.2))[i]?)) (w1 := (wX cs a r58.2)) hP hD [0, 1] [2, 3, 4, 5, 6, 7, 8, 9, 10, 11, 12] rfl rfl (by decide) (by decide) hk1 hFc hP1 hD1
        generalize H1 = H at hP hS ⊢
        have hP := hP.sub (ws' := (wX cs a r58.2 ++ wT cs b r53.2)) [11, 12, 0, 1, 2, 3, 4, 5, 6, 7, 8, 9, 10] rfl
        have hD := hD.sub (ws' := (wX cs a r58.2 ++ wT cs b r53.2)) [11, 12, 0, 1, 2, 3, 4, 5, 6, 7, 8, 9, 10] (by decide) rfl
        exact hR _ _ _ _ _ _ dX4_personItem_61 hnr58 hf hP hD hS
      · replace hf := it_t c3 hf
        refine lv_iconst (v := 0) hx hb dX4_personItem_44 (by decide) ?_
        exact hR _ _ _ _ _ _ dX4_personItem_45 (by decide) hf hP hD hS
    · replace hf := it_t c2 hf
      refine lv_iconst (v := 0) hx hb dX4_personItem_26 (by decide) ?_
      exact hR _ _ _ _ _ _ dX4_personItem_27 (by decide) hf hP hD hS
  · replace hf := it_t c1 hf
    refine lv_iconst (v := 0) hx hb dX4_personItem_9 (by decide) ?_
    exact hR _ _ _ _ _ _ dX4_personItem_10 (by decide) hf hP hD hS

theorem in_X4_loanItem_X4 : ∀ w ∈ wsX40, w ∈ wsX4_loanItem := by decide +kernel
theorem in_X4_loanItem_X5 : ∀ w ∈ wsX50, w ∈ wsX4_loanItem := by decide +kernel
def f_X4_loanItem  (X : Tx) (T : Tw) : Option (Int32 × Tx × Tw) :=
  bn (f_X4_numberWithin (0 : Int32) ((T.1 4) - (1 : Int32)) X) fun r8 =>
  if r8.1 = 0 then (
    some ((0 : Int32), (r8.2, T))
  ) else (
    bn (f_X4_numberWithin (1 : Int32) (99 : Int32) r8.2) fun r25 =>
    if r25.1 = 0 then (
      some ((0 : Int32), (r25.2, T))
    ) else (
      bn (f_X4_numberWithin (1 : Int32) (12 : Int32) r25.2) fun r42 =>
      if r42.1 = 0 then (
        some ((0 : Int32), (r42.2, T))
      ) else (
        bn (f_X5_addLoan (r8.2.1 4) (r25.2.1 4) (r42.2.1 4) T) fun r57 =>
        bn (f_X4_itemEnds r42.2) fun r62 =>
        some (r62.1, (r62.2, r57.2))
      )
    )
  )
set_option maxHeartbeats 4000000 in
set_option maxRecDepth 100000 in
theorem c_X4_loanItem (l : Launch) (dC : Nat → ClassId) (dI : Nat → Nat → Nat) (cs : Nat → ClassId) (a : Nat → Nat) (b : Nat → Nat) (sz : Nat) (X : Tx) (T : Tw)  (res : Int32 × Tx × Tw) (hf : f_X4_loanItem X T = some res) : Met l yX4_loanItem wsX4_loanItem ({ frames := 3, cells := 0, slots := 0, locals := 62 }) (va_Pc [.ref (a 0), .ref (b 0)] (fun U => U.heap.size = sz ∧ va_P (dC, dI) vwCl (wX cs a X ++ wT cs b T) U.heap ∧ GE dC dI cs U ∧ va_D (fun _ => True) (wX cs a X ++ wT cs b T))) (va_Qi (fun r (u : Tx × Tw) => r = res.1 ∧ u = res.2 ∧ narrow .boolean (.int r) = .int r) (fun u t => va_P (dC, dI) vwCl ((fun u : Tx × Tw => (wX cs a u.1 ++ wT cs b u.2)) u) t.heap ∧ va_D (va_A (wX cs a X ++ wT cs b T) sz) ((fun u : Tx × Tw => (wX cs a u.1 ++ wT cs b u.2)) u)) (va_A (wX cs a X ++ wT cs b T) sz)) 0 0 (va_A (wX cs a X ++ wT cs b T) sz) := by
  refine Met.ofW (cc := cX4_loanItem) (maxL := 4) (ret := (some .boolean)) (by decide) rfl ?_
  intro p e s m args below meth c s₁ B hml hv
  obtain ⟨rfl, hsz, hP, G, hD0⟩ := hv
  have hts := atoms_spec (ws := wsX4_loanItem) B.pre
  have hown : s.vm.findClass RX4 = some m.cls := findClass_of_methodNamed B.named
  have hlocks := B.notSynchronized
  have hx := B.exec
  have hb := B.bytes
  have hr := B.returns
  have C : CallFix p m c cX4_loanItem 4 s _ wsX4_loanItem RX4 := ⟨hx, hb, hml, hown, hts⟩
  obtain ⟨hK, hN⟩ := id G
  subst hsz
  have hD := hD0.self (sz := s.heap.size)
  generalize hAe : va_A (wX cs a X ++ wT cs b T) s.heap.size = A at hD ⊢
  have hA : ∀ q : Nat, s.heap.size ≤ q → A q := fun q h => by rw [← hAe]; exact Or.inr h
  have hS : va_S A s.heap s.heap [] := va_S.rf
  have hR : RTz p l e ({ frames := 3, cells := 0, slots := 0, locals := 62 }) s m ([.ref (a 0), .ref (b 0)] : List Value).toArray below meth c cX4_loanItem (MQ below (va_Qi (fun r (u : Tx × Tw) => r = res.1 ∧ u = res.2 ∧ narrow .boolean (.int r) = .int r) (fun u t => va_P (dC, dI) vwCl ((fun u : Tx × Tw => (wX cs a u.1 ++ wT cs b u.2)) u) t.heap ∧ va_D A ((fun u : Tx × Tw => (wX cs a u.1 ++ wT cs b u.2)) u)) A) ([.ref (a 0), .ref (b 0)] : List Value).toArray s 0 0 A) (dC, dI) A (fun u : Tx × Tw => (wX cs a u.1 ++ wT cs b u.2)) res := fun H locs pc ls r u dd hn h hP hD hS => W.zret hx hb hr hn (fun t ht hW => ⟨⟨r, u, rfl, by cases h; exact ⟨rfl, rfl, hn⟩, by rw [ht]; exact hP, hD⟩, hS.F ht⟩) hS.2.2 dd
  have hl := lv_entry ([.ref (a 0), .ref (b 0)]) (n := 4) (Nat.le_of_ble_eq_true rfl)
  rw [lg_entry_eq]
  generalize (lg_sl ([.ref (a 0), .ref (b 0)]) ++ List.replicate (4 - (lg_sl ([.ref (a 0), .ref (b 0)])).length) Slot.unset).toArray = ls at hl ⊢
  have hl : lv_has ls 4 [(0, .ref (a 0)), (1, .ref (b 0))] := hl
  unfold f_X4_loanItem at hf
  refine lv_aload_n hx hb dX4_loanItem_0 rfl (lv_at hl 0 rfl) ?_
  refine lv_iconst (v := 0) hx hb dX4_loanItem_1 (by decide) ?_
  refine lv_aload_n hx hb dX4_loanItem_2 rfl (lv_at hl 1 rfl) ?_
  refine va_get (D := (dC, dI)) (ci := 5) (v := .int ((T.1 4))) (C := RX5) (T := TX5) (N := 17) hx hb hts in_X4_loanItem_X5 hown hK hP 2 rfl rfl 4 (by decide) (hts (.fieldLink RX4 56 "BackLoans$Town" "people" "I") (by decide +kernel)) (fun _ h9 => h9) rfl dX4_loanItem_3 ?_
  refine lv_iconst (v := 1) hx hb dX4_loanItem_6 (by decide) ?_
  refine lv_isub hx hb dX4_loanItem_7 ?_
  obtain ⟨r8, hr8, hf⟩ := bn_e hf
  have hPc := hP.sub (ws' := (wX cs a X)) [0, 1] rfl
  have hDc := hD.sub (ws' := (wX cs a X)) [0, 1] (by decide) rfl
  have hFc := va_free (wc := (wX cs a X)) hD hS hA [0, 1] rfl
  refine va_calli (va_runV (As := [.int ((0 : Int32)), .int (((T.1 4) - (1 : Int32)))]) (rest := []) C (c_X4_numberWithin l dC dI cs a s.heap.size X (0 : Int32) ((T.1 4) - (1 : Int32)) r8 hr8) (cwV 2 hts gX4_loanItem_X4_numberWithin rfl rfl rfl (by decide +kernel) ⟨Nat.le_of_ble_eq_true rfl, Nat.le_of_ble_eq_true rfl⟩) ⟨(fun a U g mk q => ⟨q.1, q.2.1, q.2.2.1, GE.calling q.2.2.2.1, q.2.2.2.2⟩), va_recv hK hPc (ci := 4) (q0 := 0) rfl rfl, (fun U hU hW => ⟨rfl, by rw [hU], by rw [hU]; exact hPc, GE.warm hW G, hDc.weaken (fun _ _ _ _ => trivial)⟩)⟩ rfl rfl hl.1 rfl (lv_room (Nat.le_of_ble_eq_true rfl)) dX4_loanItem_8 ⟨Nat.le_of_ble_eq_true rfl, Nat.le_of_ble_eq_true rfl⟩) hS (fun q _ h => hFc q h) hFc (fun q u t H1 locs ht hvm hw hB hz1 hk1 hS => ?_)
  obtain ⟨rfl, rfl, hnr8⟩ := hw
  obtain ⟨hP1, hD1⟩ := hB
  rw [ht] at hP1
  obtain ⟨hP, hD⟩ := va_join (wr := [2, 3, 4, 5, 6, 7, 8, 9, 10, 11, 12].filterMap (fun i => ((wX cs a X ++ wT cs b T))[i]?)) (w1 := (wX cs a r8.2)) hP hD [0, 1] [2, 3, 4, 5, 6, 7, 8, 9, 10, 11, 12] rfl rfl (by decide) (by decide) hk1 hFc hP1 hD1
  generalize H1 = H at hP hS ⊢
  have hP := hP.sub (ws' := (wX cs a r8.2 ++ wT cs b T)) [11, 12, 0, 1, 2, 3, 4, 5, 6, 7, 8, 9, 10] rfl
  have hD := hD.sub (ws' := (wX cs a r8.2 ++ wT cs b T)) [11, 12, 0, 1, 2, 3, 4, 5, 6, 7, 8, 9, 10] (by decide) rfl
  refine lv_if_ne (tgt := 16) hx hb dX4_loanItem_11 (by decide) (fun c1 => ?_) (fun c1 => ?_)
  · replace hf := it_f c1 hf
    refine lv_aload_n hx hb dX4_loanItem_16 rfl (lv_at hl 0 rfl) ?_
    refine va_get (D := (dC, dI)) (ci := 4) (v := .int ((r8.2.1 4))) (C := RX4) (T := TX4) (N := 6) hx hb hts in_X4_loanItem_X4 hown hK hP 0 rfl rfl 5 (by decide) (hts (.fieldLink RX4 83 "BackLoans$Text" "value" "I") (by decide +kernel)) (fun _ h9 => h9) rfl dX4_loanItem_17 ?_
    refine lv_istore_n (lv' := [(2, .int ((r8.2.1 4))), (0, .ref (a 0)), (1, .ref (b 0))]) hx hb dX4_loanItem_20 rfl hl (by decide) rfl (fun ls hl => ?_)
    refine lv_aload_n hx hb dX4_loanItem_21 rfl (lv_at hl 1 rfl) ?_
    refine lv_iconst (v := 1) hx hb dX4_loanItem_22 (by decide) ?_
    refine lv_bipush (v := 99) hx hb dX4_loanItem_23 (by decide) ?_
    obtain ⟨r25, hr25, hf⟩ := bn_e hf
    have hPc := hP.sub (ws' := (wX cs a r8.2)) [0, 1] rfl
    have hDc := hD.sub (ws' := (wX cs a r8.2)) [0, 1] (by decide) rfl
    have hFc := va_free (wc := (wX cs a r8.2)) hD hS hA [0, 1] rfl
    refine va_calli (va_runV (As := [.int ((1 : Int32)), .int ((99 : Int32))]) (rest := []) C (c_X4_numberWithin l dC dI cs a H.size r8.2 (1 : Int32) (99 : Int32) r25 hr25) (cwV 2 hts gX4_loanItem_X4_numberWithin rfl rfl rfl (by decide +kernel) ⟨Nat.le_of_ble_eq_true rfl, Nat.le_of_ble_eq_true rfl⟩) ⟨(fun a U g mk q => ⟨q.1, q.2.1, q.2.2.1, GE.calling q.2.2.2.1, q.2.2.2.2⟩), va_recv hK hPc (ci := 4) (q0 := 0) rfl rfl, (fun U hU hW => ⟨rfl, by rw [hU], by rw [hU]; exact hPc, GE.warm hW G, hDc.weaken (fun _ _ _ _ => trivial)⟩)⟩ rfl rfl hl.1 rfl (lv_room (Nat.le_of_ble_eq_true rfl)) dX4_loanItem_25 ⟨Nat.le_of_ble_eq_true rfl, Nat.le_of_ble_eq_true rfl⟩) hS (fun q _ h => hFc q h) hFc (fun q u t H1 locs ht hvm hw hB hz1 hk1 hS => ?_)
    obtain ⟨rfl, rfl, hnr25⟩ := hw
    obtain ⟨hP1, hD1⟩ := hB
    rw [ht] at hP1
    obtain ⟨hP, hD⟩ := va_join (wr := [2, 3, 4, 5, 6, 7, 8, 9, 10, 11, 12].filterMap (fun i => ((wX cs a r8.2 ++ wT cs b T))[i]?)) (w1 := (wX cs a r25.2)) hP hD [0, 1] [2, 3, 4, 5, 6, 7, 8, 9, 10, 11, 12] rfl rfl (by decide) (by decide) hk1 hFc hP1 hD1
    generalize H1 = H at hP hS ⊢
    have hP := hP.sub (ws' := (wX cs a r25.2 ++ wT cs b T)) [11, 12, 0, 1, 2, 3, 4, 5, 6, 7, 8, 9, 10] rfl
    have hD := hD.sub (ws' := (wX cs a r25.2 ++ wT cs b T)) [11, 12, 0, 1, 2, 3, 4, 5, 6, 7, 8, 9, 10] (by decide) rfl
    refine lv_if_ne (tgt := 33) hx hb dX4_loanItem_28 (by decide) (fun c2 => ?_) (fun c2 => ?_)
    · replace hf := it_f c2 hf
      refine lv_aload_n hx hb dX4_loanItem_33 rfl (lv_at hl 1 rfl) ?_
      refine va_get (D := (dC, dI)) (ci := 4) (v := .int ((r25.2.1 4))) (C := RX4) (T := TX4) (N := 6) hx hb hts in_X4_loanItem_X4 hown hK hP 0 rfl rfl 5 (by decide) (hts (.fieldLink RX4 83 "BackLoans$Text" "value" "I") (by decide +kernel)) (fun _ h9 => h9) rfl dX4_loanItem_34 ?_
      refine lv_istore_n (lv' := [(3, .int ((r25.2.1 4))), (2, .int ((r8.2.1 4))), (0, .ref (a 0)), (1, .ref (b 0))]) hx hb dX4_loanItem_37 rfl hl (by decide) rfl (fun ls hl => ?_)
      refine lv_aload_n hx hb dX4_loanItem_38 rfl (lv_at hl 2 rfl) ?_
      refine lv_iconst (v := 1) hx hb dX4_loanItem_39 (by decide) ?_
      refine lv_bipush (v := 12) hx hb dX4_loanItem_40 (by decide) ?_
      obtain ⟨r42, hr42, hf⟩ := bn_e hf
      have hPc := hP.sub (ws' := (wX cs a r25.2)) [0, 1] rfl
      have hDc := hD.sub (ws' := (wX cs a r25.2)) [0, 1] (by decide) rfl
      have hFc := va_free (wc := (wX cs a r25.2)) hD hS hA [0, 1] rfl
      refine va_calli (va_runV (As := [.int ((1 : Int32)), .int ((12 : Int32))]) (rest := []) C (c_X4_numberWithin l dC dI cs a H.size r25.2 (1 : Int32) (12 : Int32) r42 hr42) (cwV 2 hts gX4_loanItem_X4_numberWithin rfl rfl rfl (by decide +kernel) ⟨Nat.le_of_ble_eq_true rfl, Nat.le_of_ble_eq_true rfl⟩) ⟨(fun a U g mk q => ⟨q.1, q.2.1, q.2.2.1, GE.calling q.2.2.2.1, q.2.2.2.2⟩), va_recv hK hPc (ci := 4) (q0 := 0) rfl rfl, (fun U hU hW => ⟨rfl, by rw [hU], by rw [hU]; exact hPc, GE.warm hW G, hDc.weaken (fun _ _ _ _ => trivial)⟩)⟩ rfl rfl hl.1 rfl (lv_room (Nat.le_of_ble_eq_true rfl)) dX4_loanItem_42 ⟨Nat.le_of_ble_eq_true rfl, Nat.le_of_ble_eq_true rfl⟩) hS (fun q _ h => hFc q h) hFc (fun q u t H1 locs ht hvm hw hB hz1 hk1 hS => ?_)
      obtain ⟨rfl, rfl, hnr42⟩ := hw
      obtain ⟨hP1, hD1⟩ := hB
      rw [ht] at hP1
      obtain ⟨hP, hD⟩ := va_join (wr := [2, 3, 4, 5, 6, 7, 8, 9, 10, 11, 12].filterMap (fun i => ((wX cs a r25.2 ++ wT cs b T))[i]?)) (w1 := (wX cs a r42.2)) hP hD [0, 1] [2, 3, 4, 5, 6, 7, 8, 9, 10, 11, 12] rfl rfl (by decide) (by decide) hk1 hFc hP1 hD1
      generalize H1 = H at hP hS ⊢
      have hP := hP.sub (ws' := (wX cs a r42.2 ++ wT cs b T)) [11, 12, 0, 1, 2, 3, 4, 5, 6, 7, 8, 9, 10] rfl
      have hD := hD.sub (ws' := (wX cs a r42.2 ++ wT cs b T)) [11, 12, 0, 1, 2, 3, 4, 5, 6, 7, 8, 9, 10] (by decide) rfl
      refine lv_if_ne (tgt := 50) hx hb dX4_loanItem_45 (by decide) (fun c3 => ?_) (fun c3 => ?_)
      · replace hf := it_f c3 hf
        refine lv_aload_n hx hb dX4_loanItem_50 rfl (lv_at hl 3 rfl) ?_
        refine lv_iload_n hx hb dX4_loanItem_51 rfl (lv_at hl 1 rfl) ?_
        refine lv_iload_n hx hb dX4_loanItem_52 rfl (lv_at hl 0 rfl) ?_
        refine lv_aload_n hx hb dX4_loanItem_53 rfl (lv_at hl 2 rfl) ?_
        refine va_get (D := (dC, dI)) (ci := 4) (v := .int ((r42.2.1 4))) (C := RX4) (T := TX4) (N := 6) hx hb hts in_X4_loanItem_X4 hown hK hP 0 rfl rfl 5 (by decide) (hts (.fieldLink RX4 83 "BackLoans$Text" "value" "I") (by decide +kernel)) (fun _ h9 => h9) rfl dX4_loanItem_54 ?_
        obtain ⟨r57, hr57, hf⟩ := bn_e hf
        have hPc := hP.sub (ws' := (wT cs b T)) [2, 3, 4, 5, 6, 7, 8, 9, 10, 11, 12] rfl
        have hDc := hD.sub (ws' := (wT cs b T)) [2, 3, 4, 5, 6, 7, 8, 9, 10, 11, 12] (by decide) rfl
        have hFc := va_free (wc := (wT cs b T)) hD hS hA [2, 3, 4, 5, 6, 7, 8, 9, 10, 11, 12] rfl
        refine va_calli (va_runV (As := [.int ((r8.2.1 4)), .int ((r25.2.1 4)), .int ((r42.2.1 4))]) (rest := []) C (c_X5_addLoan l dC dI cs b H.size T (r8.2.1 4) (r25.2.1 4) (r42.2.1 4) r57 hr57) (cwV 3 hts gX4_loanItem_X5_addLoan rfl rfl rfl (by decide +kernel) ⟨Nat.le_of_ble_eq_true rfl, Nat.le_of_ble_eq_true rfl⟩) ⟨(fun a U g mk q => ⟨q.1, q.2.1, q.2.2.1, GE.calling q.2.2.2.1, q.2.2.2.2⟩), va_recv hK hPc (ci := 5) (q0 := 0) rfl rfl, (fun U hU hW => ⟨rfl, by rw [hU], by rw [hU]; exact hPc, GE.warm hW G, hDc.weaken (fun _ _ _ _ => trivial)⟩)⟩ rfl rfl hl.1 rfl (lv_room (Nat.le_of_ble_eq_true rfl)) dX4_loanItem_57 ⟨Nat.le_of_ble_eq_true rfl, Nat.le_of_ble_eq_true rfl⟩) hS (fun q _ h => hFc q h) hFc (fun q u t H1 locs ht hvm hw hB hz1 hk1 hS => ?_)
        obtain ⟨rfl, rfl⟩ := hw
        obtain ⟨hP1, hD1⟩ := hB
        rw [ht] at hP1
        obtain ⟨hP, hD⟩ := va_join (wr := [0, 1].filterMap (fun i => ((wX cs a r42.2 ++ wT cs b T))[i]?)) (w1 := (wT cs b r57.2)) hP hD [2, 3, 4, 5, 6, 7, 8, 9, 10, 11, 12] [0, 1] rfl rfl (by decide) (by decide) hk1 hFc hP1 hD1
        generalize H1 = H at hP hS ⊢
        have hP := hP.sub (ws' := (wX cs a r42.2 ++ wT cs b r57.2)) [0, 1, 2, 3, 4, 5, 6, 7, 8, 9, 10, 11, 12] rfl
        have hD := hD.sub (ws' := (wX cs a r42.2 ++ wT cs b r57.2)) [0, 1, 2, 3, 4, 5, 6, 7, 8, 9, 10, 11, 12] (by decide) rfl
        refine lv_pop hx hb dX4_loanItem_60 rfl ?_
        refine lv_aload_n hx hb dX4_loanItem_61 rfl (lv_at hl 2 rfl) ?_
        obtain ⟨r62, hr62, hf⟩ := bn_e hf
        have hPc := hP.sub (ws' := (wX cs a r42.2)) [0, 1] rfl
        have hDc := hD.sub (ws' := (wX cs a r42.2)) [0, 1] (by decide) rfl
        have hFc := va_free (wc := (wX cs a r42.2)) hD hS hA [0, 1] rfl
        refine va_calli (va_runV (As := []) (rest := []) C (c_X4_itemEnds l dC dI cs a H.size r42.2 r62 hr62) (cwV 0 hts gX4_loanItem_X4_itemEnds rfl rfl rfl (by decide +kernel) ⟨Nat.le_of_ble_eq_true rfl, Nat.le_of_ble_eq_true rfl⟩) ⟨(fun a U g mk q => ⟨q.1, q.2.1, q.2.2.1, GE.calling q.2.2.2.1, q.2.2.2.2⟩), va_recv hK hPc (ci := 4) (q0 := 0) rfl rfl, (fun U hU hW => ⟨rfl, by rw [hU], by rw [hU]; exact hPc, GE.warm hW G, hDc.weaken (fun _ _ _ _ => trivial)⟩)⟩ rfl rfl hl.1 rfl (lv_room (Nat.le_of_ble_eq_true rfl)) dX4_loanItem_62 ⟨Nat.le_of_ble_eq_true rfl, Nat.le_of_ble_eq_true rfl⟩) hS (fun q _ h => hFc q h) hFc (fun q u t H1 locs ht hvm hw hB hz1 hk1 hS => ?_)
        obtain ⟨rfl, rfl, hnr62⟩ := hw
        obtain ⟨hP1, hD1⟩ := hB
        rw [ht] at hP1
        obtain ⟨hP, hD⟩ := va_join (wr := [2, 3, 4, 5, 6, 7, 8, 9, 10, 11, 12].filterMap (fun i => ((wX cs a r42.2 ++ wT cs b r57.2))[i]?)) (w1 := (wX cs a r62.2)) hP hD [0, 1] [2, 3, 4, 5, 6, 7, 8, 9, 10, 11, 12] rfl rfl (by decide) (by decide) hk1 hFc hP1 hD1
        generalize H1 = H at hP hS ⊢
        have hP := hP.sub (ws' := (wX cs a r62.2 ++ wT cs b r57.2)) [11, 12, 0, 1, 2, 3, 4, 5, 6, 7, 8, 9, 10] rfl
        have hD := hD.sub (ws' := (wX cs a r62.2 ++ wT cs b r57.2)) [11, 12, 0, 1, 2, 3, 4, 5, 6, 7, 8, 9, 10] (by decide) rfl
        exact hR _ _ _ _ _ _ dX4_loanItem_65 hnr62 hf hP hD hS
      · replace hf := it_t c3 hf
        refine lv_iconst (v := 0) hx hb dX4_loanItem_48 (by decide) ?_
        exact hR _ _ _ _ _ _ dX4_loanItem_49 (by decide) hf hP hD hS
    · replace hf := it_t c2 hf
      refine lv_iconst (v := 0) hx hb dX4_loanItem_31 (by decide) ?_
      exact hR _ _ _ _ _ _ dX4_loanItem_32 (by decide) hf hP hD hS
  · replace hf := it_t c1 hf
    refine lv_iconst (v := 0) hx hb dX4_loanItem_14 (by decide) ?_
    exact hR _ _ _ _ _ _ dX4_loanItem_15 (by decide) hf hP hD hS

theorem in_X4_offerItem_X4 : ∀ w ∈ wsX40, w ∈ wsX4_offerItem := by decide +kernel
def f_X4_offerItem  (X : Tx) (T : Tw) : Option (Int32 × Tx × Tw) :=
  bn (f_X4_numberWithin (1 : Int32) (99 : Int32) X) fun r4 =>
  if r4.1 = 0 then (
    some ((0 : Int32), (r4.2, T))
  ) else (
    bn (f_X4_numberWithin (1 : Int32) (12 : Int32) r4.2) fun r21 =>
    if r21.1 = 0 then (
      some ((0 : Int32), (r21.2, T))
    ) else (
      bn (f_X5_addOffer (r4.2.1 4) (r21.2.1 4) T) fun r35 =>
      bn (f_X4_itemEnds r21.2) fun r40 =>
      some (r40.1, (r40.2, r35.2))
    )
  )
set_option maxHeartbeats 4000000 in
set_option maxRecDepth 100000 in
theorem c_X4_offerItem (l : Launch) (dC : Nat → ClassId) (dI : Nat → Nat → Nat) (cs : Nat → ClassId) (a : Nat → Nat) (b : Nat → Nat) (sz : Nat) (X : Tx) (T : Tw)  (res : Int32 × Tx × Tw) (hf : f_X4_offerItem X T = some res) : Met l yX4_offerItem wsX4_offerItem ({ frames := 3, cells := 0, slots := 0, locals := 62 }) (va_Pc [.ref (a 0), .ref (b 0)] (fun U => U.heap.size = sz ∧ va_P (dC, dI) vwCl (wX cs a X ++ wT cs b T) U.heap ∧ GE dC dI cs U ∧ va_D (fun _ => True) (wX cs a X ++ wT cs b T))) (va_Qi (fun r (u : Tx × Tw) => r = res.1 ∧ u = res.2 ∧ narrow .boolean (.int r) = .int r) (fun u t => va_P (dC, dI) vwCl ((fun u : Tx × Tw => (wX cs a u.1 ++ wT cs b u.2)) u) t.heap ∧ va_D (va_A (wX cs a X ++ wT cs b T) sz) ((fun u : Tx × Tw => (wX cs a u.1 ++ wT cs b u.2)) u)) (va_A (wX cs a X ++ wT cs b T) sz)) 0 0 (va_A (wX cs a X ++ wT cs b T) sz) := by
  refine Met.ofW (cc := cX4_offerItem) (maxL := 3) (ret := (some .boolean)) (by decide) rfl ?_
  intro p e s m args below meth c s₁ B hml hv
  obtain ⟨rfl, hsz, hP, G, hD0⟩ := hv
  have hts := atoms_spec (ws := wsX4_offerItem) B.pre
  have hown : s.vm.findClass RX4 = some m.cls := findClass_of_methodNamed B.named
  have hlocks := B.notSynchronized
  have hx := B.exec
  have hb := B.bytes
  have hr := B.returns
  have C : CallFix p m c cX4_offerItem 3 s _ wsX4_offerItem RX4 := ⟨hx, hb, hml, hown, hts⟩
  obtain ⟨hK, hN⟩ := id G
  subst hsz
  have hD := hD0.self (sz := s.heap.size)
  generalize hAe : va_A (wX cs a X ++ wT cs b T) s.heap.size = A at hD ⊢
  have hA : ∀ q : Nat, s.heap.size ≤ q → A q := fun q h => by rw [← hAe]; exact Or.inr h
  have hS : va_S A s.heap s.heap [] := va_S.rf
  have hR : RTz p l e ({ frames := 3, cells := 0, slots := 0, locals := 62 }) s m ([.ref (a 0), .ref (b 0)] : List Value).toArray below meth c cX4_offerItem (MQ below (va_Qi (fun r (u : Tx × Tw) => r = res.1 ∧ u = res.2 ∧ narrow .boolean (.int r) = .int r) (fun u t => va_P (dC, dI) vwCl ((fun u : Tx × Tw => (wX cs a u.1 ++ wT cs b u.2)) u) t.heap ∧ va_D A ((fun u : Tx × Tw => (wX cs a u.1 ++ wT cs b u.2)) u)) A) ([.ref (a 0), .ref (b 0)] : List Value).toArray s 0 0 A) (dC, dI) A (fun u : Tx × Tw => (wX cs a u.1 ++ wT cs b u.2)) res := fun H locs pc ls r u dd hn h hP hD hS => W.zret hx hb hr hn (fun t ht hW => ⟨⟨r, u, rfl, by cases h; exact ⟨rfl, rfl, hn⟩, by rw [ht]; exact hP, hD⟩, hS.F ht⟩) hS.2.2 dd
  have hl := lv_entry ([.ref (a 0), .ref (b 0)]) (n := 3) (Nat.le_of_ble_eq_true rfl)
  rw [lg_entry_eq]
  generalize (lg_sl ([.ref (a 0), .ref (b 0)]) ++ List.replicate (3 - (lg_sl ([.ref (a 0), .ref (b 0)])).length) Slot.unset).toArray = ls at hl ⊢
  have hl : lv_has ls 3 [(0, .ref (a 0)), (1, .ref (b 0))] := hl
  unfold f_X4_offerItem at hf
  refine lv_aload_n hx hb dX4_offerItem_0 rfl (lv_at hl 0 rfl) ?_
  refine lv_iconst (v := 1) hx hb dX4_offerItem_1 (by decide) ?_
  refine lv_bipush (v := 99) hx hb dX4_offerItem_2 (by decide) ?_
  obtain ⟨r4, hr4, hf⟩ := bn_e hf
  have hPc := hP.sub (ws' := (wX cs a X)) [0, 1] rfl
  have hDc := hD.sub (ws' := (wX cs a X)) [0, 1] (by decide) rfl
  have hFc := va_free (wc := (wX cs a X)) hD hS hA [0, 1] rfl
  refine va_calli (va_runV (As := [.int ((1 : Int32)), .int ((99 : Int32))]) (rest := []) C (c_X4_numberWithin l dC dI cs a s.heap.size X (1 : Int32) (99 : Int32) r4 hr4) (cwV 2 hts gX4_offerItem_X4_numberWithin rfl rfl rfl (by decide +kernel) ⟨Nat.le_of_ble_eq_true rfl, Nat.le_of_ble_eq_true rfl⟩) ⟨(fun a U g mk q => ⟨q.1, q.2.1, q.2.2.1, GE.calling q.2.2.2.1, q.2.2.2.2⟩), va_recv hK hPc (ci := 4) (q0 := 0) rfl rfl, (fun U hU hW => ⟨rfl, by rw [hU], by rw [hU]; exact hPc, GE.warm hW G, hDc.weaken (fun _ _ _ _ => trivial)⟩)⟩ rfl rfl hl.1 rfl (lv_room (Nat.le_of_ble_eq_true rfl)) dX4_offerItem_4 ⟨Nat.le_of_ble_eq_true rfl, Nat.le_of_ble_eq_true rfl⟩) hS (fun q _ h => hFc q h) hFc (fun q u t H1 locs ht hvm hw hB hz1 hk1 hS => ?_)
  obtain ⟨rfl, rfl, hnr4⟩ := hw
  obtain ⟨hP1, hD1⟩ := hB
  rw [ht] at hP1
  obtain ⟨hP, hD⟩ := va_join (wr := [2, 3, 4, 5, 6, 7, 8, 9, 10, 11, 12].filterMap (fun i => ((wX cs a X ++ wT cs b T))[i]?)) (w1 := (wX cs a r4.2)) hP hD [0, 1] [2, 3, 4, 5, 6, 7, 8, 9, 10, 11, 12] rfl rfl (by decide) (by decide) hk1 hFc hP1 hD1
  generalize H1 = H at hP hS ⊢
  have hP := hP.sub (ws' := (wX cs a r4.2 ++ wT cs b T)) [11, 12, 0, 1, 2, 3, 4, 5, 6, 7, 8, 9, 10] rfl
  have hD := hD.sub (ws' := (wX cs a r4.2 ++ wT cs b T)) [11, 12, 0, 1, 2, 3, 4, 5, 6, 7, 8, 9, 10] (by decide) rfl
  refine lv_if_ne (tgt := 12) hx hb dX4_offerItem_7 (by decide) (fun c1 => ?_) (fun c1 => ?_)
  · replace hf := it_f c1 hf
    refine lv_aload_n hx hb dX4_offerItem_12 rfl (lv_at hl 0 rfl) ?_
    refine va_get (D := (dC, dI)) (ci := 4) (v := .int ((r4.2.1 4))) (C := RX4) (T := TX4) (N := 6) hx hb hts in_X4_offerItem_X4 hown hK hP 0 rfl rfl 5 (by decide) (hts (.fieldLink RX4 83 "BackLoans$Text" "value" "I") (by decide +kernel)) (fun _ h9 => h9) rfl dX4_offerItem_13 ?_
    refine lv_istore_n (lv' := [(2, .int ((r4.2.1 4))), (0, .ref (a 0)), (1, .ref (b 0))]) hx hb dX4_offerItem_16 rfl hl (by decide) rfl (fun ls hl => ?_)
    refine lv_aload_n hx hb dX4_offerItem_17 rfl (lv_at hl 1 rfl) ?_
    refine lv_iconst (v := 1) hx hb dX4_offerItem_18 (by decide) ?_
    refine lv_bipush (v := 12) hx hb dX4_offerItem_19 (by decide) ?_
    obtain ⟨r21, hr21, hf⟩ := bn_e hf
    have hPc := hP.sub (ws' := (wX cs a r4.2)) [0, 1] rfl
    have hDc := hD.sub (ws' := (wX cs a r4.2)) [0, 1] (by decide) rfl
    have hFc := va_free (wc := (wX cs a r4.2)) hD hS hA [0, 1] rfl
    refine va_calli (va_runV (As := [.int ((1 : Int32)), .int ((12 : Int32))]) (rest := []) C (c_X4_numberWithin l dC dI cs a H.size r4.2 (1 : Int32) (12 : Int32) r21 hr21) (cwV 2 hts gX4_offerItem_X4_numberWithin rfl rfl rfl (by decide +kernel) ⟨Nat.le_of_ble_eq_true rfl, Nat.le_of_ble_eq_true rfl⟩) ⟨(fun a U g mk q => ⟨q.1, q.2.1, q.2.2.1, GE.calling q.2.2.2.1, q.2.2.2.2⟩), va_recv hK hPc (ci := 4) (q0 := 0) rfl rfl, (fun U hU hW => ⟨rfl, by rw [hU], by rw [hU]; exact hPc, GE.warm hW G, hDc.weaken (fun _ _ _ _ => trivial)⟩)⟩ rfl rfl hl.1 rfl (lv_room (Nat.le_of_ble_eq_true rfl)) dX4_offerItem_21 ⟨Nat.le_of_ble_eq_true rfl, Nat.le_of_ble_eq_true rfl⟩) hS (fun q _ h => hFc q h) hFc (fun q u t H1 locs ht hvm hw hB hz1 hk1 hS => ?_)
    obtain ⟨rfl, rfl, hnr21⟩ := hw
    obtain ⟨hP1, hD1⟩ := hB
    rw [ht] at hP1
    obtain ⟨hP, hD⟩ := va_join (wr := [2, 3, 4, 5, 6, 7, 8, 9, 10, 11, 12].filterMap (fun i => ((wX cs a r4.2 ++ wT cs b T))[i]?)) (w1 := (wX cs a r21.2)) hP hD [0, 1] [2, 3, 4, 5, 6, 7, 8, 9, 10, 11, 12] rfl rfl (by decide) (by decide) hk1 hFc hP1 hD1
    generalize H1 = H at hP hS ⊢
    have hP := hP.sub (ws' := (wX cs a r21.2 ++ wT cs b T)) [11, 12, 0, 1, 2, 3, 4, 5, 6, 7, 8, 9, 10] rfl
    have hD := hD.sub (ws' := (wX cs a r21.2 ++ wT cs b T)) [11, 12, 0, 1, 2, 3, 4, 5, 6, 7, 8, 9, 10] (by decide) rfl
    refine lv_if_ne (tgt := 29) hx hb dX4_offerItem_24 (by decide) (fun c2 => ?_) (fun c2 => ?_)
    · replace hf := it_f c2 hf
      refine lv_aload_n hx hb dX4_offerItem_29 rfl (lv_at hl 2 rfl) ?_
      refine lv_iload_n hx hb dX4_offerItem_30 rfl (lv_at hl 0 rfl) ?_
      refine lv_aload_n hx hb dX4_offerItem_31 rfl (lv_at hl 1 rfl) ?_
      refine va_get (D := (dC, dI)) (ci := 4) (v := .int ((r21.2.1 4))) (C := RX4) (T := TX4) (N := 6) hx hb hts in_X4_offerItem_X4 hown hK hP 0 rfl rfl 5 (by decide) (hts (.fieldLink RX4 83 "BackLoans$Text" "value" "I") (by decide +kernel)) (fun _ h9 => h9) rfl dX4_offerItem_32 ?_
      obtain ⟨r35, hr35, hf⟩ := bn_e hf
      have hPc := hP.sub (ws' := (wT cs b T)) [2, 3, 4, 5, 6, 7, 8, 9, 10, 11, 12] rfl
      have hDc := hD.sub (ws' := (wT cs b T)) [2, 3, 4, 5, 6, 7, 8, 9, 10, 11, 12] (by decide) rfl
      have hFc := va_free (wc := (wT cs b T)) hD hS hA [2, 3, 4, 5, 6, 7, 8, 9, 10, 11, 12] rfl
      refine va_calli (va_runV (As := [.int ((r4.2.1 4)), .int ((r21.2.1 4))]) (rest := []) C (c_X5_addOffer l dC dI cs b H.size T (r4.2.1 4) (r21.2.1 4) r35 hr35) (cwV 2 hts gX4_offerItem_X5_addOffer rfl rfl rfl (by decide +kernel) ⟨Nat.le_of_ble_eq_true rfl, Nat.le_of_ble_eq_true rfl⟩) ⟨(fun a U g mk q => ⟨q.1, q.2.1, q.2.2.1, GE.calling q.2.2.2.1, q.2.2.2.2⟩), va_recv hK hPc (ci := 5) (q0 := 0) rfl rfl, (fun U hU hW => ⟨rfl, by rw [hU], by rw [hU]; exact hPc, GE.warm hW G, hDc.weaken (fun _ _ _ _ => trivial)⟩)⟩ rfl rfl hl.1 rfl (lv_room (Nat.le_of_ble_eq_true rfl)) dX4_offerItem_35 ⟨Nat.le_of_ble_eq_true rfl, Nat.le_of_ble_eq_true rfl⟩) hS (fun q _ h => hFc q h) hFc (fun q u t H1 locs ht hvm hw hB hz1 hk1 hS => ?_)
      obtain ⟨rfl, rfl⟩ := hw
      obtain ⟨hP1, hD1⟩ := hB
      rw [ht] at hP1
      obtain ⟨hP, hD⟩ := va_join (wr := [0, 1].filterMap (fun i => ((wX cs a r21.2 ++ wT cs b T))[i]?)) (w1 := (wT cs b r35.2)) hP hD [2, 3, 4, 5, 6, 7, 8, 9, 10, 11, 12] [0, 1] rfl rfl (by decide) (by decide) hk1 hFc hP1 hD1
      generalize H1 = H at hP hS ⊢
      have hP := hP.sub (ws' := (wX cs a r21.2 ++ wT cs b r35.2)) [0, 1, 2, 3, 4, 5, 6, 7, 8, 9, 10, 11, 12] rfl
      have hD := hD.sub (ws' := (wX cs a r21.2 ++ wT cs b r35.2)) [0, 1, 2, 3, 4, 5, 6, 7, 8, 9, 10, 11, 12] (by decide) rfl
      refine lv_pop hx hb dX4_offerItem_38 rfl ?_
      refine lv_aload_n hx hb dX4_offerItem_39 rfl (lv_at hl 1 rfl) ?_
      obtain ⟨r40, hr40, hf⟩ := bn_e hf
      have hPc := hP.sub (ws' := (wX cs a r21.2)) [0, 1] rfl
      have hDc := hD.sub (ws' := (wX cs a r21.2)) [0, 1] (by decide) rfl
      have hFc := va_free (wc := (wX cs a r21.2)) hD hS hA [0, 1] rfl
      refine va_calli (va_runV (As := []) (rest := []) C (c_X4_itemEnds l dC dI cs a H.size r21.2 r40 hr40) (cwV 0 hts gX4_offerItem_X4_itemEnds rfl rfl rfl (by decide +kernel) ⟨Nat.le_of_ble_eq_true rfl, Nat.le_of_ble_eq_true rfl⟩) ⟨(fun a U g mk q => ⟨q.1, q.2.1, q.2.2.1, GE.calling q.2.2.2.1, q.2.2.2.2⟩), va_recv hK hPc (ci := 4) (q0 := 0) rfl rfl, (fun U hU hW => ⟨rfl, by rw [hU], by rw [hU]; exact hPc, GE.warm hW G, hDc.weaken (fun _ _ _ _ => trivial)⟩)⟩ rfl rfl hl.1 rfl (lv_room (Nat.le_of_ble_eq_true rfl)) dX4_offerItem_40 ⟨Nat.le_of_ble_eq_true rfl, Nat.le_of_ble_eq_true rfl⟩) hS (fun q _ h => hFc q h) hFc (fun q u t H1 locs ht hvm hw hB hz1 hk1 hS => ?_)
      obtain ⟨rfl, rfl, hnr40⟩ := hw
      obtain ⟨hP1, hD1⟩ := hB
      rw [ht] at hP1
      obtain ⟨hP, hD⟩ := va_join (wr := [2, 3, 4, 5, 6, 7, 8, 9, 10, 11, 12].filterMap (fun i => ((wX cs a r21.2 ++ wT cs b r35.2))[i]?)) (w1 := (wX cs a r40.2)) hP hD [0, 1] [2, 3, 4, 5, 6, 7, 8, 9, 10, 11, 12] rfl rfl (by decide) (by decide) hk1 hFc hP1 hD1
      generalize H1 = H at hP hS ⊢
      have hP := hP.sub (ws' := (wX cs a r40.2 ++ wT cs b r35.2)) [11, 12, 0, 1, 2, 3, 4, 5, 6, 7, 8, 9, 10] rfl
      have hD := hD.sub (ws' := (wX cs a r40.2 ++ wT cs b r35.2)) [11, 12, 0, 1, 2, 3, 4, 5, 6, 7, 8, 9, 10] (by decide) rfl
      exact hR _ _ _ _ _ _ dX4_offerItem_43 hnr40 hf hP hD hS
    · replace hf := it_t c2 hf
      refine lv_iconst (v := 0) hx hb dX4_offerItem_27 (by decide) ?_
      exact hR _ _ _ _ _ _ dX4_offerItem_28 (by decide) hf hP hD hS
  · replace hf := it_t c1 hf
    refine lv_iconst (v := 0) hx hb dX4_offerItem_10 (by decide) ?_
    exact hR _ _ _ _ _ _ dX4_offerItem_11 (by decide) hf hP hD hS

