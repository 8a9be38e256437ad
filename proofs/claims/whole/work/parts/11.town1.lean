def f_X7_hasBit (x0 : Int32) (x1 : Int32)  : Option Int32 :=
  if ((x0 >>> (x1 &&& 31)) &&& (1 : Int32)) = (1 : Int32) then (
    some (1 : Int32)
  ) else (
    some (0 : Int32)
  )
set_option maxHeartbeats 4000000 in
set_option maxRecDepth 100000 in
theorem c_X7_hasBit (l : Launch) (dC : Nat → ClassId) (dI : Nat → Nat → Nat) (cs : Nat → ClassId)  (x0 : Int32) (x1 : Int32) (res : Int32) (hf : f_X7_hasBit x0 x1 = some res) : Met l yX7_hasBit wsX7_hasBit ({ frames := 0, cells := 0, slots := 0, locals := 0 }) (va_Pc [.int (x0), .int (x1)] (fun U => va_P (dC, dI) vwCl ([] : va_W) U.heap ∧ GE dC dI cs U)) (vp_Si (fun r => r = res ∧ narrow .boolean (.int r) = .int r)) 0 0 (fun _ => False) := by
  refine Met.ofW (cc := cX7_hasBit) (maxL := 2) (ret := (some .boolean)) (by decide) rfl ?_
  intro p e s m args below meth c s₁ B hml hv
  obtain ⟨rfl, hP, G⟩ := hv
  have hts := atoms_spec (ws := wsX7_hasBit) B.pre
  have hown : s.vm.findClass RX7 = some m.cls := findClass_of_methodNamed B.named
  have hlocks := B.notSynchronized
  have hx := B.exec
  have hb := B.bytes
  have hr := B.returns
  have C : CallFix p m c cX7_hasBit 2 s _ wsX7_hasBit RX7 := ⟨hx, hb, hml, hown, hts⟩
  obtain ⟨hK, hN⟩ := id G
  have hR : RPz p l e ({ frames := 0, cells := 0, slots := 0, locals := 0 }) s m ([.int (x0), .int (x1)] : List Value).toArray below meth c cX7_hasBit (MQ below (vp_Si (fun r => r = res ∧ narrow .boolean (.int r) = .int r)) ([.int (x0), .int (x1)] : List Value).toArray s 0 0 (fun _ => False)) res := fun pc ls r dd hn h => W.zret hx hb hr hn (fun t ht hW => ⟨r, rfl, ⟨Option.some.inj h, hn⟩, ht⟩) (fun q hq => by cases hq) dd
  have hl := lv_entry ([.int (x0), .int (x1)]) (n := 2) (Nat.le_of_ble_eq_true rfl)
  rw [lg_entry_eq]
  generalize (lg_sl ([.int (x0), .int (x1)]) ++ List.replicate (2 - (lg_sl ([.int (x0), .int (x1)])).length) Slot.unset).toArray = ls at hl ⊢
  have hl : lv_has ls 2 [(0, .int (x0)), (1, .int (x1))] := hl
  unfold f_X7_hasBit at hf
  refine lv_iload_n hx hb dX7_hasBit_0 rfl (lv_at hl 0 rfl) ?_
  refine lv_iload_n hx hb dX7_hasBit_1 rfl (lv_at hl 1 rfl) ?_
  refine lv_ishr hx hb dX7_hasBit_2 ?_
  refine lv_iconst (v := 1) hx hb dX7_hasBit_3 (by decide) ?_
  refine lv_iand hx hb dX7_hasBit_4 ?_
  refine lv_iconst (v := 1) hx hb dX7_hasBit_5 (by decide) ?_
  refine lv_icmp_ne (tgt := 13) hx hb dX7_hasBit_6 (by decide) (fun c1 => ?_) (fun c1 => ?_)
  · replace hf := it_f c1 hf
    refine lv_iconst (v := 0) hx hb dX7_hasBit_13 (by decide) ?_
    exact hR _ _ _ dX7_hasBit_14 (by decide) hf
  · replace hf := it_t c1 hf
    refine lv_iconst (v := 1) hx hb dX7_hasBit_9 (by decide) ?_
    refine lv_goto (tgt := 14) hx hb dX7_hasBit_10 (by decide) ?_
    exact hR _ _ _ dX7_hasBit_14 (by decide) hf

def f_X7_within (x0 : Int32) (x1 : Int32) (x2 : Int32)  : Option Int32 :=
  if x0 < x1 then (
    some (0 : Int32)
  ) else (
    if x2 < x0 then (
      some (0 : Int32)
    ) else (
      some (1 : Int32)
    )
  )
set_option maxHeartbeats 4000000 in
set_option maxRecDepth 100000 in
theorem c_X7_within (l : Launch) (dC : Nat → ClassId) (dI : Nat → Nat → Nat) (cs : Nat → ClassId)  (x0 : Int32) (x1 : Int32) (x2 : Int32) (res : Int32) (hf : f_X7_within x0 x1 x2 = some res) : Met l yX7_within wsX7_within ({ frames := 0, cells := 0, slots := 0, locals := 0 }) (va_Pc [.int (x0), .int (x1), .int (x2)] (fun U => va_P (dC, dI) vwCl ([] : va_W) U.heap ∧ GE dC dI cs U)) (vp_Si (fun r => r = res ∧ narrow .boolean (.int r) = .int r)) 0 0 (fun _ => False) := by
  refine Met.ofW (cc := cX7_within) (maxL := 3) (ret := (some .boolean)) (by decide) rfl ?_
  intro p e s m args below meth c s₁ B hml hv
  obtain ⟨rfl, hP, G⟩ := hv
  have hts := atoms_spec (ws := wsX7_within) B.pre
  have hown : s.vm.findClass RX7 = some m.cls := findClass_of_methodNamed B.named
  have hlocks := B.notSynchronized
  have hx := B.exec
  have hb := B.bytes
  have hr := B.returns
  have C : CallFix p m c cX7_within 3 s _ wsX7_within RX7 := ⟨hx, hb, hml, hown, hts⟩
  obtain ⟨hK, hN⟩ := id G
  have hR : RPz p l e ({ frames := 0, cells := 0, slots := 0, locals := 0 }) s m ([.int (x0), .int (x1), .int (x2)] : List Value).toArray below meth c cX7_within (MQ below (vp_Si (fun r => r = res ∧ narrow .boolean (.int r) = .int r)) ([.int (x0), .int (x1), .int (x2)] : List Value).toArray s 0 0 (fun _ => False)) res := fun pc ls r dd hn h => W.zret hx hb hr hn (fun t ht hW => ⟨r, rfl, ⟨Option.some.inj h, hn⟩, ht⟩) (fun q hq => by cases hq) dd
  have hl := lv_entry ([.int (x0), .int (x1), .int (x2)]) (n := 3) (Nat.le_of_ble_eq_true rfl)
  rw [lg_entry_eq]
  generalize (lg_sl ([.int (x0), .int (x1), .int (x2)]) ++ List.replicate (3 - (lg_sl ([.int (x0), .int (x1), .int (x2)])).length) Slot.unset).toArray = ls at hl ⊢
  have hl : lv_has ls 3 [(0, .int (x0)), (1, .int (x1)), (2, .int (x2))] := hl
  unfold f_X7_within at hf
  refine lv_iload_n hx hb dX7_within_0 rfl (lv_at hl 0 rfl) ?_
  refine lv_iload_n hx hb dX7_within_1 rfl (lv_at hl 1 rfl) ?_
  refine lv_icmp_lt (tgt := 14) hx hb dX7_within_2 (by decide) (fun c1 => ?_) (fun c1 => ?_)
  · replace hf := it_t c1 hf
    refine lv_iconst (v := 0) hx hb dX7_within_14 (by decide) ?_
    exact hR _ _ _ dX7_within_15 (by decide) hf
  · replace hf := it_f c1 hf
    refine lv_iload_n hx hb dX7_within_5 rfl (lv_at hl 0 rfl) ?_
    refine lv_iload_n hx hb dX7_within_6 rfl (lv_at hl 2 rfl) ?_
    refine lv_icmp_gt (tgt := 14) hx hb dX7_within_7 (by decide) (fun c2 => ?_) (fun c2 => ?_)
    · replace hf := it_t c2 hf
      refine lv_iconst (v := 0) hx hb dX7_within_14 (by decide) ?_
      exact hR _ _ _ dX7_within_15 (by decide) hf
    · replace hf := it_f c2 hf
      refine lv_iconst (v := 1) hx hb dX7_within_10 (by decide) ?_
      refine lv_goto (tgt := 15) hx hb dX7_within_11 (by decide) ?_
      exact hR _ _ _ dX7_within_15 (by decide) hf

def f_J6_bitCount_0f7a4 (x0 : Int32)  : Option Int32 :=
  lett (x0 - (((x0).toUInt32 >>> (((1 : Int32)).toUInt32 &&& Int32.toUInt32 31)).toInt32 &&& (1431655765 : Int32))) fun x0_9 =>
  lett ((x0_9 &&& (858993459 : Int32)) + (((x0_9).toUInt32 >>> (((2 : Int32)).toUInt32 &&& Int32.toUInt32 31)).toInt32 &&& (858993459 : Int32))) fun x0_23 =>
  lett ((x0_23 + ((x0_23).toUInt32 >>> (((4 : Int32)).toUInt32 &&& Int32.toUInt32 31)).toInt32) &&& (252645135 : Int32)) fun x0_33 =>
  lett (x0_33 + ((x0_33).toUInt32 >>> (((8 : Int32)).toUInt32 &&& Int32.toUInt32 31)).toInt32) fun x0_40 =>
  lett (x0_40 + ((x0_40).toUInt32 >>> (((16 : Int32)).toUInt32 &&& Int32.toUInt32 31)).toInt32) fun x0_47 =>
  some (x0_47 &&& (63 : Int32))
set_option maxHeartbeats 4000000 in
set_option maxRecDepth 100000 in
theorem c_J6_bitCount_0f7a4 (l : Launch) (dC : Nat → ClassId) (dI : Nat → Nat → Nat) (cs : Nat → ClassId)  (x0 : Int32) (res : Int32) (hf : f_J6_bitCount_0f7a4 x0 = some res) : Met l yJ6_bitCount_0f7a4 wsJ6_bitCount_0f7a4 ({ frames := 0, cells := 0, slots := 0, locals := 0 }) (va_Pc [.int (x0)] (fun U => va_P (dC, dI) vwCl ([] : va_W) U.heap ∧ GE dC dI cs U)) (vp_Si (fun r => r = res)) 0 0 (fun _ => False) := by
  refine Met.ofW (cc := cJ6_bitCount_0f7a4) (maxL := 1) (ret := (some .int)) (by decide) rfl ?_
  intro p e s m args below meth c s₁ B hml hv
  obtain ⟨rfl, hP, G⟩ := hv
  have hts := atoms_spec (ws := wsJ6_bitCount_0f7a4) B.pre
  have hown : s.vm.findClass RJ6 = some m.cls := findClass_of_methodNamed B.named
  have hlocks := B.notSynchronized
  have hx := B.exec
  have hb := B.bytes
  have hr := B.returns
  have C : CallFix p m c cJ6_bitCount_0f7a4 1 s _ wsJ6_bitCount_0f7a4 RJ6 := ⟨hx, hb, hml, hown, hts⟩
  obtain ⟨hK, hN⟩ := id G
  have hR : RPi p l e ({ frames := 0, cells := 0, slots := 0, locals := 0 }) s m ([.int (x0)] : List Value).toArray below meth c cJ6_bitCount_0f7a4 (MQ below (vp_Si (fun r => r = res)) ([.int (x0)] : List Value).toArray s 0 0 (fun _ => False)) res := fun pc ls r dd h => W.iret hx hb hr (fun t ht hW => ⟨r, rfl, Option.some.inj h, ht⟩) (fun q hq => by cases hq) dd
  have hl := lv_entry ([.int (x0)]) (n := 1) (Nat.le_of_ble_eq_true rfl)
  rw [lg_entry_eq]
  generalize (lg_sl ([.int (x0)]) ++ List.replicate (1 - (lg_sl ([.int (x0)])).length) Slot.unset).toArray = ls at hl ⊢
  have hl : lv_has ls 1 [(0, .int (x0))] := hl
  unfold f_J6_bitCount_0f7a4 at hf
  refine lv_iload_n hx hb dJ6_bitCount_0f7a4_0 rfl (lv_at hl 0 rfl) ?_
  refine lv_iload_n hx hb dJ6_bitCount_0f7a4_1 rfl (lv_at hl 0 rfl) ?_
  refine lv_iconst (v := 1) hx hb dJ6_bitCount_0f7a4_2 (by decide) ?_
  refine lv_iushr hx hb dJ6_bitCount_0f7a4_3 rfl ?_
  refine lv_ldcw (v := 1431655765) hx hb hown (hts (.constant RJ6 265 (1431655765)) (by decide +kernel)) dJ6_bitCount_0f7a4_4 ?_
  refine lv_iand hx hb dJ6_bitCount_0f7a4_7 ?_
  refine lv_isub hx hb dJ6_bitCount_0f7a4_8 ?_
  refine lv_topi (fun x0_9 ex0_9 => ?_)
  replace hf := lett_s ex0_9 hf
  refine lv_istore_n (lv' := [(0, .int (x0_9))]) hx hb dJ6_bitCount_0f7a4_9 rfl hl (by decide) rfl (fun ls hl => ?_)
  refine lv_iload_n hx hb dJ6_bitCount_0f7a4_10 rfl (lv_at hl 0 rfl) ?_
  refine lv_ldcw (v := 858993459) hx hb hown (hts (.constant RJ6 266 (858993459)) (by decide +kernel)) dJ6_bitCount_0f7a4_11 ?_
  refine lv_iand hx hb dJ6_bitCount_0f7a4_14 ?_
  refine lv_iload_n hx hb dJ6_bitCount_0f7a4_15 rfl (lv_at hl 0 rfl) ?_
  refine lv_iconst (v := 2) hx hb dJ6_bitCount_0f7a4_16 (by decide) ?_
  refine lv_iushr hx hb dJ6_bitCount_0f7a4_17 rfl ?_
  refine lv_ldcw (v := 858993459) hx hb hown (hts (.constant RJ6 266 (858993459)) (by decide +kernel)) dJ6_bitCount_0f7a4_18 ?_
  refine lv_iand hx hb dJ6_bitCount_0f7a4_21 ?_
  refine lv_iadd hx hb dJ6_bitCount_0f7a4_22 ?_
  refine lv_topi (fun x0_23 ex0_23 => ?_)
  replace hf := lett_s ex0_23 hf
  refine lv_istore_n (lv' := [(0, .int (x0_23))]) hx hb dJ6_bitCount_0f7a4_23 rfl hl (by decide) rfl (fun ls hl => ?_)
  refine lv_iload_n hx hb dJ6_bitCount_0f7a4_24 rfl (lv_at hl 0 rfl) ?_
  refine lv_iload_n hx hb dJ6_bitCount_0f7a4_25 rfl (lv_at hl 0 rfl) ?_
  refine lv_iconst (v := 4) hx hb dJ6_bitCount_0f7a4_26 (by decide) ?_
  refine lv_iushr hx hb dJ6_bitCount_0f7a4_27 rfl ?_
  refine lv_iadd hx hb dJ6_bitCount_0f7a4_28 ?_
  refine lv_ldcw (v := 252645135) hx hb hown (hts (.constant RJ6 267 (252645135)) (by decide +kernel)) dJ6_bitCount_0f7a4_29 ?_
  refine lv_iand hx hb dJ6_bitCount_0f7a4_32 ?_
  refine lv_topi (fun x0_33 ex0_33 => ?_)
  replace hf := lett_s ex0_33 hf
  refine lv_istore_n (lv' := [(0, .int (x0_33))]) hx hb dJ6_bitCount_0f7a4_33 rfl hl (by decide) rfl (fun ls hl => ?_)
  refine lv_iload_n hx hb dJ6_bitCount_0f7a4_34 rfl (lv_at hl 0 rfl) ?_
  refine lv_iload_n hx hb dJ6_bitCount_0f7a4_35 rfl (lv_at hl 0 rfl) ?_
  refine lv_bipush (v := 8) hx hb dJ6_bitCount_0f7a4_36 (by decide) ?_
  refine lv_iushr hx hb dJ6_bitCount_0f7a4_38 rfl ?_
  refine lv_iadd hx hb dJ6_bitCount_0f7a4_39 ?_
  refine lv_topi (fun x0_40 ex0_40 => ?_)
  replace hf := lett_s ex0_40 hf
  refine lv_istore_n (lv' := [(0, .int (x0_40))]) hx hb dJ6_bitCount_0f7a4_40 rfl hl (by decide) rfl (fun ls hl => ?_)
  refine lv_iload_n hx hb dJ6_bitCount_0f7a4_41 rfl (lv_at hl 0 rfl) ?_
  refine lv_iload_n hx hb dJ6_bitCount_0f7a4_42 rfl (lv_at hl 0 rfl) ?_
  refine lv_bipush (v := 16) hx hb dJ6_bitCount_0f7a4_43 (by decide) ?_
  refine lv_iushr hx hb dJ6_bitCount_0f7a4_45 rfl ?_
  refine lv_iadd hx hb dJ6_bitCount_0f7a4_46 ?_
  refine lv_topi (fun x0_47 ex0_47 => ?_)
  replace hf := lett_s ex0_47 hf
  refine lv_istore_n (lv' := [(0, .int (x0_47))]) hx hb dJ6_bitCount_0f7a4_47 rfl hl (by decide) rfl (fun ls hl => ?_)
  refine lv_iload_n hx hb dJ6_bitCount_0f7a4_48 rfl (lv_at hl 0 rfl) ?_
  refine lv_bipush (v := 63) hx hb dJ6_bitCount_0f7a4_49 (by decide) ?_
  refine lv_iand hx hb dJ6_bitCount_0f7a4_51 ?_
  exact hR _ _ _ dJ6_bitCount_0f7a4_52 hf

theorem in_X5_howManyAre_X5 : ∀ w ∈ wsX50, w ∈ wsX5_howManyAre := by decide +kernel
def f_X5_howManyAre_25 (x1 : Int32) (x2 : Int32) (x3 : Int32) (T : Tw) (K4 : Int32 → Int32 → Option Int32) : Option Int32 :=
  lett (x3 + 1) fun x3_25 =>
  K4 x2 x3_25
set_option maxHeartbeats 4000000 in
set_option maxRecDepth 100000 in
theorem b_X5_howManyAre_25 {p : Program} {l : Launch} {e : Env} {s : State} {m : MethodId} {args : Array Value} {below : List Frame} {meth : Method} {c : Code} {Q : State → Prop} {dC : Nat → ClassId} {dI : Nat → Nat → Nat} {cs : Nat → ClassId} {a : Nat → Nat} {res : Int32} (C : CallFix p m c cX5_howManyAre 4 s args wsX5_howManyAre RX5) (G : GE dC dI cs s) (hR : RPi p l e ({ frames := 0, cells := 0, slots := 0, locals := 0 }) s m args below meth c cX5_howManyAre Q res) {T : Tw} (hP : va_P (dC, dI) vwCl (wT cs a T) s.heap) (x1 : Int32) (x2 : Int32) (x3 : Int32) (_ : Tw) {K4 : Int32 → Int32 → Option Int32} (hK4 : ∀ (x2 : Int32) (x3 : Int32) (ls : Array Slot), lv_has ls 4 [(0, .ref (a 0)), (1, .int (x1)), (2, .int (x2)), (3, .int (x3))] → K4 x2 x3 = some res → W p l e ({ frames := 0, cells := 0, slots := 0, locals := 0 }) s m args below meth c s.heap [] 0 0 Q (F0 m 4 ls [])) (ls : Array Slot) (hl : lv_has ls 4 [(0, .ref (a 0)), (1, .int (x1)), (2, .int (x2)), (3, .int (x3))]) (hf : f_X5_howManyAre_25 x1 x2 x3 T K4 = some res) : W p l e ({ frames := 0, cells := 0, slots := 0, locals := 0 }) s m args below meth c s.heap [] 0 0 Q (F0 m 25 ls []) := by
  obtain ⟨hx, hb, hml, hown, hts⟩ := id C
  obtain ⟨hK, hN⟩ := id G
  unfold f_X5_howManyAre_25 at hf
  obtain ⟨x3_25, ex3_25⟩ : ∃ y : Int32, y = (x3 + 1) := ⟨_, rfl⟩
  replace hf := lett_s ex3_25 hf
  refine lv_iinc (v := x3_25) (lv' := [(3, .int (x3_25)), (0, .ref (a 0)), (1, .int (x1)), (2, .int (x2))]) hx hb dX5_howManyAre_25 hl (k := 3) rfl (by rw [ex3_25]; rfl) (by decide) rfl (fun ls hl => ?_)
  refine lv_goto (tgt := 4) hx hb dX5_howManyAre_28 (by decide) ?_
  exact hK4 x2 x3_25 _ (lv_sub hl [1, 2, 3, 0] rfl) hf
def f_X5_howManyAre_4 (x1 : Int32) (x2 : Int32) (x3 : Int32) (T : Tw) (K4 : Int32 → Int32 → Option Int32) : Option Int32 :=
  if (T.1 5) ≤ x3 then (
    some x2
  ) else (
    gi (x3) 8 <|
    if ((T.2 6) (x3).toNatClampNeg) = x1 then (
      lett (x2 + 1) fun x2_22 =>
      f_X5_howManyAre_25 x1 x2_22 x3 T K4
    ) else (
      f_X5_howManyAre_25 x1 x2 x3 T K4
    )
  )
set_option maxHeartbeats 4000000 in
set_option maxRecDepth 100000 in
theorem b_X5_howManyAre_4 {p : Program} {l : Launch} {e : Env} {s : State} {m : MethodId} {args : Array Value} {below : List Frame} {meth : Method} {c : Code} {Q : State → Prop} {dC : Nat → ClassId} {dI : Nat → Nat → Nat} {cs : Nat → ClassId} {a : Nat → Nat} {res : Int32} (C : CallFix p m c cX5_howManyAre 4 s args wsX5_howManyAre RX5) (G : GE dC dI cs s) (hR : RPi p l e ({ frames := 0, cells := 0, slots := 0, locals := 0 }) s m args below meth c cX5_howManyAre Q res) {T : Tw} (hP : va_P (dC, dI) vwCl (wT cs a T) s.heap) (x1 : Int32) (x2 : Int32) (x3 : Int32) (_ : Tw) {K4 : Int32 → Int32 → Option Int32} (hK4 : ∀ (x2 : Int32) (x3 : Int32) (ls : Array Slot), lv_has ls 4 [(0, .ref (a 0)), (1, .int (x1)), (2, .int (x2)), (3, .int (x3))] → K4 x2 x3 = some res → W p l e ({ frames := 0, cells := 0, slots := 0, locals := 0 }) s m args below meth c s.heap [] 0 0 Q (F0 m 4 ls [])) (ls : Array Slot) (hl : lv_has ls 4 [(0, .ref (a 0)), (1, .int (x1)), (2, .int (x2)), (3, .int (x3))]) (hf : f_X5_howManyAre_4 x1 x2 x3 T K4 = some res) : W p l e ({ frames := 0, cells := 0, slots := 0, locals := 0 }) s m args below meth c s.heap [] 0 0 Q (F0 m 4 ls []) := by
  obtain ⟨hx, hb, hml, hown, hts⟩ := id C
  obtain ⟨hK, hN⟩ := id G
  unfold f_X5_howManyAre_4 at hf
  refine lv_iload_n hx hb dX5_howManyAre_4 rfl (lv_at hl 3 rfl) ?_
  refine lv_aload_n hx hb dX5_howManyAre_5 rfl (lv_at hl 0 rfl) ?_
  refine va_get (D := (dC, dI)) (ci := 5) (v := .int ((T.1 5))) (C := RX5) (T := TX5) (N := 17) hx hb hts in_X5_howManyAre_X5 hown hK hP 0 rfl rfl 5 (by decide) (hts (.fieldLink RX5 58 "BackLoans$Town" "loans" "I") (by decide +kernel)) (fun _ h9 => h9) rfl dX5_howManyAre_6 ?_
  refine lv_icmp_ge (tgt := 31) hx hb dX5_howManyAre_9 (by decide) (fun c1 => ?_) (fun c1 => ?_)
  · replace hf := it_t c1 hf
    refine lv_iload_n hx hb dX5_howManyAre_31 rfl (lv_at hl 2 rfl) ?_
    exact hR _ _ _ dX5_howManyAre_32 hf
  · replace hf := it_f c1 hf
    refine lv_aload_n hx hb dX5_howManyAre_12 rfl (lv_at hl 0 rfl) ?_
    refine va_get (D := (dC, dI)) (ci := 5) (v := .ref (a 7)) (C := RX5) (T := TX5) (N := 17) hx hb hts in_X5_howManyAre_X5 hown hK hP 0 rfl rfl 13 (by decide) (hts (.fieldLink RX5 30 "BackLoans$Town" "state" "[I") (by decide +kernel)) (fun _ h9 => h9) rfl dX5_howManyAre_13 ?_
    refine lv_iload_n hx hb dX5_howManyAre_16 rfl (lv_at hl 3 rfl) ?_
    obtain ⟨hi2, hf⟩ := gi_e hf
    refine va_iald hx hb hK hP 7 0 rfl rfl hi2 dX5_howManyAre_17 ?_
    refine lv_iload_n hx hb dX5_howManyAre_18 rfl (lv_at hl 1 rfl) ?_
    refine lv_icmp_ne (tgt := 25) hx hb dX5_howManyAre_19 (by decide) (fun c3 => ?_) (fun c3 => ?_)
    · replace hf := it_f c3 hf
      exact b_X5_howManyAre_25 C G hR hP x1 x2 x3 T hK4 _ (lv_sub hl [0, 1, 2, 3] rfl) hf
    · replace hf := it_t c3 hf
      obtain ⟨x2_22, ex2_22⟩ : ∃ y : Int32, y = (x2 + 1) := ⟨_, rfl⟩
      replace hf := lett_s ex2_22 hf
      refine lv_iinc (v := x2_22) (lv' := [(2, .int (x2_22)), (0, .ref (a 0)), (1, .int (x1)), (3, .int (x3))]) hx hb dX5_howManyAre_22 hl (k := 2) rfl (by rw [ex2_22]; rfl) (by decide) rfl (fun ls hl => ?_)
      exact b_X5_howManyAre_25 C G hR hP x1 x2_22 x3 T hK4 _ (lv_sub hl [1, 2, 0, 3] rfl) hf
def l_X5_howManyAre_4 (x1 : Int32) (T : Tw)  (n : Nat) (x2 : Int32) (x3 : Int32) : Option Int32 := itr (fun (k : Int32 × Int32 → Option Int32) (z : Int32 × Int32) => f_X5_howManyAre_4 x1 z.1 z.2 T (fun x2 x3 => k (x2, x3))) n (x2, x3)
set_option maxHeartbeats 4000000 in
set_option maxRecDepth 100000 in
theorem w_X5_howManyAre_4 {p : Program} {l : Launch} {e : Env} {s : State} {m : MethodId} {args : Array Value} {below : List Frame} {meth : Method} {c : Code} {Q : State → Prop} {dC : Nat → ClassId} {dI : Nat → Nat → Nat} {cs : Nat → ClassId} {a : Nat → Nat} {res : Int32} (C : CallFix p m c cX5_howManyAre 4 s args wsX5_howManyAre RX5) (G : GE dC dI cs s) (hR : RPi p l e ({ frames := 0, cells := 0, slots := 0, locals := 0 }) s m args below meth c cX5_howManyAre Q res) {T : Tw} (hP : va_P (dC, dI) vwCl (wT cs a T) s.heap) (x1 : Int32) (_ : Tw)   : ∀ (n : Nat) (x2 : Int32) (x3 : Int32) (ls : Array Slot), lv_has ls 4 [(0, .ref (a 0)), (1, .int (x1)), (2, .int (x2)), (3, .int (x3))] → l_X5_howManyAre_4 x1 T n x2 x3 = some res → W p l e ({ frames := 0, cells := 0, slots := 0, locals := 0 }) s m args below meth c s.heap [] 0 0 Q (F0 m 4 ls []) := by
  intro n
  induction n with
  | zero => intro x2 x3 ls hl hf; exact absurd hf (by simp [l_X5_howManyAre_4, itr])
  | succ n ih => intro x2 x3 ls hl hf; exact b_X5_howManyAre_4 C G hR hP x1 x2 x3 T (K4 := fun x2 x3 => l_X5_howManyAre_4 x1 T n x2 x3) (fun x2 x3 ls hl hf => ih x2 x3 ls hl hf) ls hl hf
def f_X5_howManyAre (x1 : Int32) (T : Tw) : Option Int32 :=
  lett (0 : Int32) fun x2_1 =>
  lett (0 : Int32) fun x3_3 =>
  l_X5_howManyAre_4 x1 T FU x2_1 x3_3
set_option maxHeartbeats 4000000 in
set_option maxRecDepth 100000 in
theorem c_X5_howManyAre (l : Launch) (dC : Nat → ClassId) (dI : Nat → Nat → Nat) (cs : Nat → ClassId) (a : Nat → Nat) (T : Tw) (x1 : Int32) (res : Int32) (hf : f_X5_howManyAre x1 T = some res) : Met l yX5_howManyAre wsX5_howManyAre ({ frames := 0, cells := 0, slots := 0, locals := 0 }) (va_Pc [.ref (a 0), .int (x1)] (fun U => va_P (dC, dI) vwCl (wT cs a T) U.heap ∧ GE dC dI cs U)) (vp_Si (fun r => r = res)) 0 0 (fun _ => False) := by
  refine Met.ofW (cc := cX5_howManyAre) (maxL := 4) (ret := (some .int)) (by decide) rfl ?_
  intro p e s m args below meth c s₁ B hml hv
  obtain ⟨rfl, hP, G⟩ := hv
  have hts := atoms_spec (ws := wsX5_howManyAre) B.pre
  have hown : s.vm.findClass RX5 = some m.cls := findClass_of_methodNamed B.named
  have hlocks := B.notSynchronized
  have hx := B.exec
  have hb := B.bytes
  have hr := B.returns
  have C : CallFix p m c cX5_howManyAre 4 s _ wsX5_howManyAre RX5 := ⟨hx, hb, hml, hown, hts⟩
  obtain ⟨hK, hN⟩ := id G
  have hR : RPi p l e ({ frames := 0, cells := 0, slots := 0, locals := 0 }) s m ([.ref (a 0), .int (x1)] : List Value).toArray below meth c cX5_howManyAre (MQ below (vp_Si (fun r => r = res)) ([.ref (a 0), .int (x1)] : List Value).toArray s 0 0 (fun _ => False)) res := fun pc ls r dd h => W.iret hx hb hr (fun t ht hW => ⟨r, rfl, Option.some.inj h, ht⟩) (fun q hq => by cases hq) dd
  have hl := lv_entry ([.ref (a 0), .int (x1)]) (n := 4) (Nat.le_of_ble_eq_true rfl)
  rw [lg_entry_eq]
  generalize (lg_sl ([.ref (a 0), .int (x1)]) ++ List.replicate (4 - (lg_sl ([.ref (a 0), .int (x1)])).length) Slot.unset).toArray = ls at hl ⊢
  have hl : lv_has ls 4 [(0, .ref (a 0)), (1, .int (x1))] := hl
  unfold f_X5_howManyAre at hf
  refine lv_iconst (v := 0) hx hb dX5_howManyAre_0 (by decide) ?_
  refine lv_topi (fun x2_1 ex2_1 => ?_)
  replace hf := lett_s ex2_1 hf
  refine lv_istore_n (lv' := [(2, .int (x2_1)), (0, .ref (a 0)), (1, .int (x1))]) hx hb dX5_howManyAre_1 rfl hl (by decide) rfl (fun ls hl => ?_)
  refine lv_iconst (v := 0) hx hb dX5_howManyAre_2 (by decide) ?_
  refine lv_topi (fun x3_3 ex3_3 => ?_)
  replace hf := lett_s ex3_3 hf
  refine lv_istore_n (lv' := [(3, .int (x3_3)), (2, .int (x2_1)), (0, .ref (a 0)), (1, .int (x1))]) hx hb dX5_howManyAre_3 rfl hl (by decide) rfl (fun ls hl => ?_)
  exact w_X5_howManyAre_4 C G hR hP x1 T FU x2_1 x3_3 _ (lv_sub hl [2, 3, 1, 0] rfl) hf

theorem in_X5_giveOrStop_X5 : ∀ w ∈ wsX50, w ∈ wsX5_giveOrStop := by decide +kernel
def f_X5_giveOrStop_34 (x1 : Int32) (x2 : Int32) (s0 : Int32) (T : Tw)  : Option Tw :=
  gi (x2) 6 <|
  if s0 ≤ ((T.2 2) (x2).toNatClampNeg) then (
    gi (x2) 6 <|
    gi (x1) 8 <|
    gi (x2) 6 <|
    lett ((T.1, va_up T.2 2 (upd (T.2 2) (x2).toNatClampNeg ((((T.2 2) (x2).toNatClampNeg) - ((T.2 4) (x1).toNatClampNeg)))))) fun T_67 =>
    gi (x1) 8 <|
    lett ((upd T_67.1 0 ((if ((T_67.1 0) + ((T_67.2 4) (x1).toNatClampNeg)) < (99999 : Int32) then ((T_67.1 0) + ((T_67.2 4) (x1).toNatClampNeg)) else (99999 : Int32))), T_67.2)) fun T_85 =>
    gi (x1) 8 <|
    gi (x1) 8 <|
    lett ((T_85.1, va_up T_85.2 7 (upd (T_85.2 7) (x1).toNatClampNeg ((((T_85.2 7) (x1).toNatClampNeg) + (1 : Int32)))))) fun T_97 =>
    gi (x1) 8 <|
    gi (x1) 8 <|
    if ((T_97.2 7) (x1).toNatClampNeg) < ((T_97.2 5) (x1).toNatClampNeg) then (
      some T_97
    ) else (
      gi (x1) 8 <|
      lett ((T_97.1, va_up T_97.2 6 (upd (T_97.2 6) (x1).toNatClampNeg ((3 : Int32))))) fun T_119 =>
      some T_119
    )
  ) else (
    gi (x1) 8 <|
    lett ((T.1, va_up T.2 6 (upd (T.2 6) (x1).toNatClampNeg ((2 : Int32))))) fun T_51 =>
    some T_51
  )
set_option maxHeartbeats 4000000 in
set_option maxRecDepth 100000 in
theorem b_X5_giveOrStop_34 {p : Program} {l : Launch} {e : Env} {s : State} {m : MethodId} {args : Array Value} {below : List Frame} {meth : Method} {c : Code} {Q : State → Prop} {dC : Nat → ClassId} {dI : Nat → Nat → Nat} {cs : Nat → ClassId} {A : Nat → Prop} {a : Nat → Nat} {res : Tw} (C : CallFix p m c cX5_giveOrStop 4 s args wsX5_giveOrStop RX5) (G : GE dC dI cs s) (hA : ∀ q : Nat, s.heap.size ≤ q → A q) (hR : RTv p l e ({ frames := 1, cells := 0, slots := 0, locals := 21 }) s m args below meth c cX5_giveOrStop Q (dC, dI) A (fun u : Tw => (wT cs a u)) res) (x1 : Int32) (x2 : Int32) (s0 : Int32) (T : Tw)   (H : Heap) (locs : List Loc) (ls : Array Slot) (hl : lv_has ls 4 [(0, .ref (a 0)), (1, .int (x1)), (2, .int (x2))]) (hP : va_P (dC, dI) vwCl (wT cs a T) H) (hD : va_D A (wT cs a T)) (hS : va_S A s.heap H locs) (hf : f_X5_giveOrStop_34 x1 x2 s0 T = some res) : W p l e ({ frames := 1, cells := 0, slots := 0, locals := 21 }) s m args below meth c H locs 0 0 Q (F0 m 34 ls [.int (s0)]) := by
  obtain ⟨hx, hb, hml, hown, hts⟩ := id C
  obtain ⟨hK, hN⟩ := id G
  unfold f_X5_giveOrStop_34 at hf
  refine lv_istore_n (lv' := [(3, .int (s0)), (0, .ref (a 0)), (1, .int (x1)), (2, .int (x2))]) hx hb dX5_giveOrStop_34 rfl hl (by decide) rfl (fun ls hl => ?_)
  refine lv_aload_n hx hb dX5_giveOrStop_35 rfl (lv_at hl 1 rfl) ?_
  refine va_get (D := (dC, dI)) (ci := 5) (v := .ref (a 3)) (C := RX5) (T := TX5) (N := 17) hx hb hts in_X5_giveOrStop_X5 hown hK hP 0 rfl rfl 9 (by decide) (hts (.fieldLink RX5 18 "BackLoans$Town" "purse" "[I") (by decide +kernel)) (fun _ h9 => h9) rfl dX5_giveOrStop_36 ?_
  refine lv_iload_n hx hb dX5_giveOrStop_39 rfl (lv_at hl 3 rfl) ?_
  obtain ⟨hi1, hf⟩ := gi_e hf
  refine va_iald hx hb hK hP 3 0 rfl rfl hi1 dX5_giveOrStop_40 ?_
  refine lv_iload_n hx hb dX5_giveOrStop_41 rfl (lv_at hl 0 rfl) ?_
  refine lv_icmp_ge (tgt := 53) hx hb dX5_giveOrStop_42 (by decide) (fun c2 => ?_) (fun c2 => ?_)
  · replace hf := it_t c2 hf
    refine lv_aload_n hx hb dX5_giveOrStop_53 rfl (lv_at hl 1 rfl) ?_
    refine va_get (D := (dC, dI)) (ci := 5) (v := .ref (a 3)) (C := RX5) (T := TX5) (N := 17) hx hb hts in_X5_giveOrStop_X5 hown hK hP 0 rfl rfl 9 (by decide) (hts (.fieldLink RX5 18 "BackLoans$Town" "purse" "[I") (by decide +kernel)) (fun _ h9 => h9) rfl dX5_giveOrStop_54 ?_
    refine lv_iload_n hx hb dX5_giveOrStop_57 rfl (lv_at hl 3 rfl) ?_
    refine lv_dup2_11 hx hb dX5_giveOrStop_58 rfl rfl ?_
    obtain ⟨hi3, hf⟩ := gi_e hf
    refine va_iald hx hb hK hP 3 0 rfl rfl hi3 dX5_giveOrStop_59 ?_
    refine lv_aload_n hx hb dX5_giveOrStop_60 rfl (lv_at hl 1 rfl) ?_
    refine va_get (D := (dC, dI)) (ci := 5) (v := .ref (a 5)) (C := RX5) (T := TX5) (N := 17) hx hb hts in_X5_giveOrStop_X5 hown hK hP 0 rfl rfl 11 (by decide) (hts (.fieldLink RX5 24 "BackLoans$Town" "pence" "[I") (by decide +kernel)) (fun _ h9 => h9) rfl dX5_giveOrStop_61 ?_
    refine lv_iload_n hx hb dX5_giveOrStop_64 rfl (lv_at hl 2 rfl) ?_
    obtain ⟨hi4, hf⟩ := gi_e hf
    refine va_iald hx hb hK hP 5 0 rfl rfl hi4 dX5_giveOrStop_65 ?_
    refine lv_isub hx hb dX5_giveOrStop_66 ?_
    obtain ⟨hi5, hf⟩ := gi_e hf
    refine va_iast hx hb hK hP hD hS 3 0 rfl rfl hi5 dX5_giveOrStop_67 (fun H locs hP hD hS => ?_)
    obtain ⟨T_67, hP, hD, hf⟩ := st_nm (ws := fun T_67 : Tw => (wT cs a T_67)) ((T.1, va_up T.2 2 (upd (T.2 2) (x2).toNatClampNeg ((((T.2 2) (x2).toNatClampNeg) - ((T.2 4) (x1).toNatClampNeg)))))) hP hD hf
    refine lv_aload_n hx hb dX5_giveOrStop_68 rfl (lv_at hl 1 rfl) ?_
    refine lv_ldc (v := 99999) hx hb hown (hts (.constant RX5 100 (99999)) (by decide +kernel)) dX5_giveOrStop_69 ?_
    refine lv_aload_n hx hb dX5_giveOrStop_71 rfl (lv_at hl 1 rfl) ?_
    refine va_get (D := (dC, dI)) (ci := 5) (v := .int ((T_67.1 0))) (C := RX5) (T := TX5) (N := 17) hx hb hts in_X5_giveOrStop_X5 hown hK hP 0 rfl rfl 0 (by decide) (hts (.fieldLink RX5 42 "BackLoans$Town" "chest" "I") (by decide +kernel)) (fun _ h9 => h9) rfl dX5_giveOrStop_72 ?_
    refine lv_aload_n hx hb dX5_giveOrStop_75 rfl (lv_at hl 1 rfl) ?_
    refine va_get (D := (dC, dI)) (ci := 5) (v := .ref (a 5)) (C := RX5) (T := TX5) (N := 17) hx hb hts in_X5_giveOrStop_X5 hown hK hP 0 rfl rfl 11 (by decide) (hts (.fieldLink RX5 24 "BackLoans$Town" "pence" "[I") (by decide +kernel)) (fun _ h9 => h9) rfl dX5_giveOrStop_76 ?_
    refine lv_iload_n hx hb dX5_giveOrStop_79 rfl (lv_at hl 2 rfl) ?_
    obtain ⟨hi6, hf⟩ := gi_e hf
    refine va_iald hx hb hK hP 5 0 rfl rfl hi6 dX5_giveOrStop_80 ?_
    refine lv_iadd hx hb dX5_giveOrStop_81 ?_
    refine va_mmin hx hb (hml.trans hl.1.symm) hown (hts (.methodLink RX5 95 Lib.Math.min.name) (by decide +kernel)) (hts (.static Lib.Math.min.name) (by decide +kernel)) (hts (.initialized "java/lang/Math") (by decide +kernel)) (hts (.code Lib.Math.min.name Lib.Math.min.code 2 (some .int)) (by decide +kernel)) (Nat.le_of_ble_eq_true rfl) (Nat.le_of_ble_eq_true rfl) (Nat.le_of_ble_eq_true rfl) (Nat.le_of_ble_eq_true rfl) dX5_giveOrStop_82 ?_
    refine va_put (D := (dC, dI)) (ci := 5) (v := .int ((if ((T_67.1 0) + ((T_67.2 4) (x1).toNatClampNeg)) < (99999 : Int32) then ((T_67.1 0) + ((T_67.2 4) (x1).toNatClampNeg)) else (99999 : Int32)))) (ty := .int) (C := RX5) (T := TX5) (N := 17) hx hb hts in_X5_giveOrStop_X5 tyX5 tyX5_ok nmX5 hown hK hP hD hS 0 rfl rfl 0 (by decide) (hts (.fieldLink RX5 42 "BackLoans$Town" "chest" "I") (by decide +kernel)) (fun _ h9 => h9) rfl (by decide +kernel) rfl rfl (Nat.le_of_ble_eq_true rfl) dX5_giveOrStop_85 (fun H locs hP hD hS => ?_)
    obtain ⟨T_85, hP, hD, hf⟩ := st_nm (ws := fun T_85 : Tw => (wT cs a T_85)) ((upd T_67.1 0 ((if ((T_67.1 0) + ((T_67.2 4) (x1).toNatClampNeg)) < (99999 : Int32) then ((T_67.1 0) + ((T_67.2 4) (x1).toNatClampNeg)) else (99999 : Int32))), T_67.2)) hP hD hf
    refine lv_aload_n hx hb dX5_giveOrStop_88 rfl (lv_at hl 1 rfl) ?_
    refine va_get (D := (dC, dI)) (ci := 5) (v := .ref (a 8)) (C := RX5) (T := TX5) (N := 17) hx hb hts in_X5_giveOrStop_X5 hown hK hP 0 rfl rfl 14 (by decide) (hts (.fieldLink RX5 33 "BackLoans$Town" "given" "[I") (by decide +kernel)) (fun _ h9 => h9) rfl dX5_giveOrStop_89 ?_
    refine lv_iload_n hx hb dX5_giveOrStop_92 rfl (lv_at hl 2 rfl) ?_
    refine lv_dup2_11 hx hb dX5_giveOrStop_93 rfl rfl ?_
    obtain ⟨hi7, hf⟩ := gi_e hf
    refine va_iald hx hb hK hP 8 0 rfl rfl hi7 dX5_giveOrStop_94 ?_
    refine lv_iconst (v := 1) hx hb dX5_giveOrStop_95 (by decide) ?_
    refine lv_iadd hx hb dX5_giveOrStop_96 ?_
    obtain ⟨hi8, hf⟩ := gi_e hf
    refine va_iast hx hb hK hP hD hS 8 0 rfl rfl hi8 dX5_giveOrStop_97 (fun H locs hP hD hS => ?_)
    obtain ⟨T_97, hP, hD, hf⟩ := st_nm (ws := fun T_97 : Tw => (wT cs a T_97)) ((T_85.1, va_up T_85.2 7 (upd (T_85.2 7) (x1).toNatClampNeg ((((T_85.2 7) (x1).toNatClampNeg) + (1 : Int32)))))) hP hD hf
    refine lv_aload_n hx hb dX5_giveOrStop_98 rfl (lv_at hl 1 rfl) ?_
    refine va_get (D := (dC, dI)) (ci := 5) (v := .ref (a 8)) (C := RX5) (T := TX5) (N := 17) hx hb hts in_X5_giveOrStop_X5 hown hK hP 0 rfl rfl 14 (by decide) (hts (.fieldLink RX5 33 "BackLoans$Town" "given" "[I") (by decide +kernel)) (fun _ h9 => h9) rfl dX5_giveOrStop_99 ?_
    refine lv_iload_n hx hb dX5_giveOrStop_102 rfl (lv_at hl 2 rfl) ?_
    obtain ⟨hi9, hf⟩ := gi_e hf
    refine va_iald hx hb hK hP 8 0 rfl rfl hi9 dX5_giveOrStop_103 ?_
    refine lv_aload_n hx hb dX5_giveOrStop_104 rfl (lv_at hl 1 rfl) ?_
    refine va_get (D := (dC, dI)) (ci := 5) (v := .ref (a 6)) (C := RX5) (T := TX5) (N := 17) hx hb hts in_X5_giveOrStop_X5 hown hK hP 0 rfl rfl 12 (by decide) (hts (.fieldLink RX5 27 "BackLoans$Town" "times" "[I") (by decide +kernel)) (fun _ h9 => h9) rfl dX5_giveOrStop_105 ?_
    refine lv_iload_n hx hb dX5_giveOrStop_108 rfl (lv_at hl 2 rfl) ?_
    obtain ⟨hi10, hf⟩ := gi_e hf
    refine va_iald hx hb hK hP 6 0 rfl rfl hi10 dX5_giveOrStop_109 ?_
    refine lv_icmp_lt (tgt := 120) hx hb dX5_giveOrStop_110 (by decide) (fun c11 => ?_) (fun c11 => ?_)
    · replace hf := it_t c11 hf
      exact hR _ _ _ _ _ dX5_giveOrStop_120 hf hP hD hS
    · replace hf := it_f c11 hf
      refine lv_aload_n hx hb dX5_giveOrStop_113 rfl (lv_at hl 1 rfl) ?_
      refine va_get (D := (dC, dI)) (ci := 5) (v := .ref (a 7)) (C := RX5) (T := TX5) (N := 17) hx hb hts in_X5_giveOrStop_X5 hown hK hP 0 rfl rfl 13 (by decide) (hts (.fieldLink RX5 30 "BackLoans$Town" "state" "[I") (by decide +kernel)) (fun _ h9 => h9) rfl dX5_giveOrStop_114 ?_
      refine lv_iload_n hx hb dX5_giveOrStop_117 rfl (lv_at hl 2 rfl) ?_
      refine lv_iconst (v := 3) hx hb dX5_giveOrStop_118 (by decide) ?_
      obtain ⟨hi12, hf⟩ := gi_e hf
      refine va_iast hx hb hK hP hD hS 7 0 rfl rfl hi12 dX5_giveOrStop_119 (fun H locs hP hD hS => ?_)
      obtain ⟨T_119, hP, hD, hf⟩ := st_nm (ws := fun T_119 : Tw => (wT cs a T_119)) ((T_97.1, va_up T_97.2 6 (upd (T_97.2 6) (x1).toNatClampNeg ((3 : Int32))))) hP hD hf
      exact hR _ _ _ _ _ dX5_giveOrStop_120 hf hP hD hS
  · replace hf := it_f c2 hf
    refine lv_aload_n hx hb dX5_giveOrStop_45 rfl (lv_at hl 1 rfl) ?_
    refine va_get (D := (dC, dI)) (ci := 5) (v := .ref (a 7)) (C := RX5) (T := TX5) (N := 17) hx hb hts in_X5_giveOrStop_X5 hown hK hP 0 rfl rfl 13 (by decide) (hts (.fieldLink RX5 30 "BackLoans$Town" "state" "[I") (by decide +kernel)) (fun _ h9 => h9) rfl dX5_giveOrStop_46 ?_
    refine lv_iload_n hx hb dX5_giveOrStop_49 rfl (lv_at hl 2 rfl) ?_
    refine lv_iconst (v := 2) hx hb dX5_giveOrStop_50 (by decide) ?_
    obtain ⟨hi13, hf⟩ := gi_e hf
    refine va_iast hx hb hK hP hD hS 7 0 rfl rfl hi13 dX5_giveOrStop_51 (fun H locs hP hD hS => ?_)
    obtain ⟨T_51, hP, hD, hf⟩ := st_nm (ws := fun T_51 : Tw => (wT cs a T_51)) ((T.1, va_up T.2 6 (upd (T.2 6) (x1).toNatClampNeg ((2 : Int32))))) hP hD hf
    exact hR _ _ _ _ _ dX5_giveOrStop_52 hf hP hD hS
def f_X5_giveOrStop (x1 : Int32) (T : Tw) : Option Tw :=
  gi (x1) 8 <|
  lett ((T.2 3) (x1).toNatClampNeg) fun x2_6 =>
  gi (x2_6) 6 <|
  if ((T.2 0) (x2_6).toNatClampNeg) = (5 : Int32) then (
    gi (x1) 8 <|
    f_X5_giveOrStop_34 x1 x2_6 ((2 : Int32) * ((T.2 4) (x1).toNatClampNeg)) T
  ) else (
    gi (x1) 8 <|
    f_X5_giveOrStop_34 x1 x2_6 ((T.2 4) (x1).toNatClampNeg) T
  )
set_option maxHeartbeats 4000000 in
set_option maxRecDepth 100000 in
theorem c_X5_giveOrStop (l : Launch) (dC : Nat → ClassId) (dI : Nat → Nat → Nat) (cs : Nat → ClassId) (a : Nat → Nat) (sz : Nat) (T : Tw) (x1 : Int32) (res : Tw) (hf : f_X5_giveOrStop x1 T = some res) : Met l yX5_giveOrStop wsX5_giveOrStop ({ frames := 1, cells := 0, slots := 0, locals := 21 }) (va_Pc [.ref (a 0), .int (x1)] (fun U => U.heap.size = sz ∧ va_P (dC, dI) vwCl (wT cs a T) U.heap ∧ GE dC dI cs U ∧ va_D (fun _ => True) (wT cs a T))) (va_Qv (fun u : Tw => u = res) (fun u t => va_P (dC, dI) vwCl ((fun u : Tw => (wT cs a u)) u) t.heap ∧ va_D (va_A (wT cs a T) sz) ((fun u : Tw => (wT cs a u)) u)) (va_A (wT cs a T) sz)) 0 0 (va_A (wT cs a T) sz) := by
  refine Met.ofW (cc := cX5_giveOrStop) (maxL := 4) (ret := none) (by decide) rfl ?_
  intro p e s m args below meth c s₁ B hml hv
  obtain ⟨rfl, hsz, hP, G, hD0⟩ := hv
  have hts := atoms_spec (ws := wsX5_giveOrStop) B.pre
  have hown : s.vm.findClass RX5 = some m.cls := findClass_of_methodNamed B.named
  have hlocks := B.notSynchronized
  have hx := B.exec
  have hb := B.bytes
  have hr := B.returns
  have C : CallFix p m c cX5_giveOrStop 4 s _ wsX5_giveOrStop RX5 := ⟨hx, hb, hml, hown, hts⟩
  obtain ⟨hK, hN⟩ := id G
  subst hsz
  have hD := hD0.self (sz := s.heap.size)
  generalize hAe : va_A (wT cs a T) s.heap.size = A at hD ⊢
  have hA : ∀ q : Nat, s.heap.size ≤ q → A q := fun q h => by rw [← hAe]; exact Or.inr h
  have hS : va_S A s.heap s.heap [] := va_S.rf
  have hR : RTv p l e ({ frames := 1, cells := 0, slots := 0, locals := 21 }) s m ([.ref (a 0), .int (x1)] : List Value).toArray below meth c cX5_giveOrStop (MQ below (va_Qv (fun u : Tw => u = res) (fun u t => va_P (dC, dI) vwCl ((fun u : Tw => (wT cs a u)) u) t.heap ∧ va_D A ((fun u : Tw => (wT cs a u)) u)) A) ([.ref (a 0), .int (x1)] : List Value).toArray s 0 0 A) (dC, dI) A (fun u : Tw => (wT cs a u)) res := fun H locs pc ls u dd h hP hD hS => W.vret hx hb hr (fun t ht hW => ⟨⟨u, rfl, by cases h; rfl, by rw [ht]; exact hP, hD⟩, hS.F ht⟩) hS.2.2 dd
  have hl := lv_entry ([.ref (a 0), .int (x1)]) (n := 4) (Nat.le_of_ble_eq_true rfl)
  rw [lg_entry_eq]
  generalize (lg_sl ([.ref (a 0), .int (x1)]) ++ List.replicate (4 - (lg_sl ([.ref (a 0), .int (x1)])).length) Slot.unset).toArray = ls at hl ⊢
  have hl : lv_has ls 4 [(0, .ref (a 0)), (1, .int (x1))] := hl
  unfold f_X5_giveOrStop at hf
  refine lv_aload_n hx hb dX5_giveOrStop_0 rfl (lv_at hl 0 rfl) ?_
  refine va_get (D := (dC, dI)) (ci := 5) (v := .ref (a 4)) (C := RX5) (T := TX5) (N := 17) hx hb hts in_X5_giveOrStop_X5 hown hK hP 0 rfl rfl 10 (by decide) (hts (.fieldLink RX5 21 "BackLoans$Town" "owner" "[I") (by decide +kernel)) (fun _ h9 => h9) rfl dX5_giveOrStop_1 ?_
  refine lv_iload_n hx hb dX5_giveOrStop_4 rfl (lv_at hl 1 rfl) ?_
  obtain ⟨hi1, hf⟩ := gi_e hf
  refine va_iald hx hb hK hP 4 0 rfl rfl hi1 dX5_giveOrStop_5 ?_
  refine lv_topi (fun x2_6 ex2_6 => ?_)
  replace hf := lett_s ex2_6 hf
  refine lv_istore_n (lv' := [(2, .int (x2_6)), (0, .ref (a 0)), (1, .int (x1))]) hx hb dX5_giveOrStop_6 rfl hl (by decide) rfl (fun ls hl => ?_)
  refine lv_aload_n hx hb dX5_giveOrStop_7 rfl (lv_at hl 1 rfl) ?_
  refine va_get (D := (dC, dI)) (ci := 5) (v := .ref (a 1)) (C := RX5) (T := TX5) (N := 17) hx hb hts in_X5_giveOrStop_X5 hown hK hP 0 rfl rfl 7 (by decide) (hts (.fieldLink RX5 9 "BackLoans$Town" "kind" "[I") (by decide +kernel)) (fun _ h9 => h9) rfl dX5_giveOrStop_8 ?_
  refine lv_iload_n hx hb dX5_giveOrStop_11 rfl (lv_at hl 0 rfl) ?_
  obtain ⟨hi2, hf⟩ := gi_e hf
  refine va_iald hx hb hK hP 1 0 rfl rfl hi2 dX5_giveOrStop_12 ?_
  refine lv_iconst (v := 5) hx hb dX5_giveOrStop_13 (by decide) ?_
  refine lv_icmp_ne (tgt := 28) hx hb dX5_giveOrStop_14 (by decide) (fun c3 => ?_) (fun c3 => ?_)
  · replace hf := it_f c3 hf
    refine lv_aload_n hx hb dX5_giveOrStop_28 rfl (lv_at hl 1 rfl) ?_
    refine va_get (D := (dC, dI)) (ci := 5) (v := .ref (a 5)) (C := RX5) (T := TX5) (N := 17) hx hb hts in_X5_giveOrStop_X5 hown hK hP 0 rfl rfl 11 (by decide) (hts (.fieldLink RX5 24 "BackLoans$Town" "pence" "[I") (by decide +kernel)) (fun _ h9 => h9) rfl dX5_giveOrStop_29 ?_
    refine lv_iload_n hx hb dX5_giveOrStop_32 rfl (lv_at hl 2 rfl) ?_
    obtain ⟨hi4, hf⟩ := gi_e hf
    refine va_iald hx hb hK hP 5 0 rfl rfl hi4 dX5_giveOrStop_33 ?_
    exact b_X5_giveOrStop_34 C G hA hR x1 x2_6 ((T.2 4) (x1).toNatClampNeg) T _ _ _ (lv_sub hl [1, 2, 0] rfl) hP hD hS hf
  · replace hf := it_t c3 hf
    refine lv_iconst (v := 2) hx hb dX5_giveOrStop_17 (by decide) ?_
    refine lv_aload_n hx hb dX5_giveOrStop_18 rfl (lv_at hl 1 rfl) ?_
    refine va_get (D := (dC, dI)) (ci := 5) (v := .ref (a 5)) (C := RX5) (T := TX5) (N := 17) hx hb hts in_X5_giveOrStop_X5 hown hK hP 0 rfl rfl 11 (by decide) (hts (.fieldLink RX5 24 "BackLoans$Town" "pence" "[I") (by decide +kernel)) (fun _ h9 => h9) rfl dX5_giveOrStop_19 ?_
    refine lv_iload_n hx hb dX5_giveOrStop_22 rfl (lv_at hl 2 rfl) ?_
    obtain ⟨hi5, hf⟩ := gi_e hf
    refine va_iald hx hb hK hP 5 0 rfl rfl hi5 dX5_giveOrStop_23 ?_
    refine lv_imul hx hb dX5_giveOrStop_24 ?_
    refine lv_goto (tgt := 34) hx hb dX5_giveOrStop_25 (by decide) ?_
    exact b_X5_giveOrStop_34 C G hA hR x1 x2_6 ((2 : Int32) * ((T.2 4) (x1).toNatClampNeg)) T _ _ _ (lv_sub hl [1, 2, 0] rfl) hP hD hS hf

theorem in_X5_gainOf_X5 : ∀ w ∈ wsX50, w ∈ wsX5_gainOf := by decide +kernel
def f_X5_gainOf (x1 : Int32) (x2 : Int32) (T : Tw) : Option Int32 :=
  some (((x1 * x2) * (T.1 1)) / (100 : Int32))
set_option maxHeartbeats 4000000 in
set_option maxRecDepth 100000 in
theorem c_X5_gainOf (l : Launch) (dC : Nat → ClassId) (dI : Nat → Nat → Nat) (cs : Nat → ClassId) (a : Nat → Nat) (T : Tw) (x1 : Int32) (x2 : Int32) (res : Int32) (hf : f_X5_gainOf x1 x2 T = some res) : Met l yX5_gainOf wsX5_gainOf ({ frames := 0, cells := 0, slots := 0, locals := 0 }) (va_Pc [.ref (a 0), .int (x1), .int (x2)] (fun U => va_P (dC, dI) vwCl (wT cs a T) U.heap ∧ GE dC dI cs U)) (vp_Si (fun r => r = res)) 0 0 (fun _ => False) := by
  refine Met.ofW (cc := cX5_gainOf) (maxL := 3) (ret := (some .int)) (by decide) rfl ?_
  intro p e s m args below meth c s₁ B hml hv
  obtain ⟨rfl, hP, G⟩ := hv
  have hts := atoms_spec (ws := wsX5_gainOf) B.pre
  have hown : s.vm.findClass RX5 = some m.cls := findClass_of_methodNamed B.named
  have hlocks := B.notSynchronized
  have hx := B.exec
  have hb := B.bytes
  have hr := B.returns
  have C : CallFix p m c cX5_gainOf 3 s _ wsX5_gainOf RX5 := ⟨hx, hb, hml, hown, hts⟩
  obtain ⟨hK, hN⟩ := id G
  have hR : RPi p l e ({ frames := 0, cells := 0, slots := 0, locals := 0 }) s m ([.ref (a 0), .int (x1), .int (x2)] : List Value).toArray below meth c cX5_gainOf (MQ below (vp_Si (fun r => r = res)) ([.ref (a 0), .int (x1), .int (x2)] : List Value).toArray s 0 0 (fun _ => False)) res := fun pc ls r dd h => W.iret hx hb hr (fun t ht hW => ⟨r, rfl, Option.some.inj h, ht⟩) (fun q hq => by cases hq) dd
  have hl := lv_entry ([.ref (a 0), .int (x1), .int (x2)]) (n := 3) (Nat.le_of_ble_eq_true rfl)
  rw [lg_entry_eq]
  generalize (lg_sl ([.ref (a 0), .int (x1), .int (x2)]) ++ List.replicate (3 - (lg_sl ([.ref (a 0), .int (x1), .int (x2)])).length) Slot.unset).toArray = ls at hl ⊢
  have hl : lv_has ls 3 [(0, .ref (a 0)), (1, .int (x1)), (2, .int (x2))] := hl
  unfold f_X5_gainOf at hf
  refine lv_iload_n hx hb dX5_gainOf_0 rfl (lv_at hl 1 rfl) ?_
  refine lv_iload_n hx hb dX5_gainOf_1 rfl (lv_at hl 2 rfl) ?_
  refine lv_imul hx hb dX5_gainOf_2 ?_
  refine lv_aload_n hx hb dX5_gainOf_3 rfl (lv_at hl 0 rfl) ?_
  refine va_get (D := (dC, dI)) (ci := 5) (v := .int ((T.1 1))) (C := RX5) (T := TX5) (N := 17) hx hb hts in_X5_gainOf_X5 hown hK hP 0 rfl rfl 1 (by decide) (hts (.fieldLink RX5 46 "BackLoans$Town" "rate" "I") (by decide +kernel)) (fun _ h9 => h9) rfl dX5_gainOf_4 ?_
  refine lv_imul hx hb dX5_gainOf_7 ?_
  refine lv_bipush (v := 100) hx hb dX5_gainOf_8 (by decide) ?_
  refine lv_idiv hx hb dX5_gainOf_10 (by decide) ?_
  exact hR _ _ _ dX5_gainOf_11 hf

theorem in_X5_wholeOf_X5 : ∀ w ∈ wsX50, w ∈ wsX5_wholeOf := by decide +kernel
def f_X5_wholeOf (x1 : Int32) (T : Tw) : Option Int32 :=
  gi (x1) 8 <|
  gi (x1) 8 <|
  gi (x1) 8 <|
  gi (x1) 8 <|
  bn (f_X5_gainOf ((T.2 4) (x1).toNatClampNeg) ((T.2 5) (x1).toNatClampNeg) T) fun r26 =>
  some ((((T.2 4) (x1).toNatClampNeg) * ((T.2 5) (x1).toNatClampNeg)) + r26)
set_option maxHeartbeats 4000000 in
set_option maxRecDepth 100000 in
theorem c_X5_wholeOf (l : Launch) (dC : Nat → ClassId) (dI : Nat → Nat → Nat) (cs : Nat → ClassId) (a : Nat → Nat) (T : Tw) (x1 : Int32) (res : Int32) (hf : f_X5_wholeOf x1 T = some res) : Met l yX5_wholeOf wsX5_wholeOf ({ frames := 1, cells := 0, slots := 0, locals := 22 }) (va_Pc [.ref (a 0), .int (x1)] (fun U => va_P (dC, dI) vwCl (wT cs a T) U.heap ∧ GE dC dI cs U)) (vp_Si (fun r => r = res)) 0 0 (fun _ => False) := by
  refine Met.ofW (cc := cX5_wholeOf) (maxL := 2) (ret := (some .int)) (by decide) rfl ?_
  intro p e s m args below meth c s₁ B hml hv
  obtain ⟨rfl, hP, G⟩ := hv
  have hts := atoms_spec (ws := wsX5_wholeOf) B.pre
  have hown : s.vm.findClass RX5 = some m.cls := findClass_of_methodNamed B.named
  have hlocks := B.notSynchronized
  have hx := B.exec
  have hb := B.bytes
  have hr := B.returns
  have C : CallFix p m c cX5_wholeOf 2 s _ wsX5_wholeOf RX5 := ⟨hx, hb, hml, hown, hts⟩
  obtain ⟨hK, hN⟩ := id G
  have hR : RPi p l e ({ frames := 1, cells := 0, slots := 0, locals := 22 }) s m ([.ref (a 0), .int (x1)] : List Value).toArray below meth c cX5_wholeOf (MQ below (vp_Si (fun r => r = res)) ([.ref (a 0), .int (x1)] : List Value).toArray s 0 0 (fun _ => False)) res := fun pc ls r dd h => W.iret hx hb hr (fun t ht hW => ⟨r, rfl, Option.some.inj h, ht⟩) (fun q hq => by cases hq) dd
  have hl := lv_entry ([.ref (a 0), .int (x1)]) (n := 2) (Nat.le_of_ble_eq_true rfl)
  rw [lg_entry_eq]
  generalize (lg_sl ([.ref (a 0), .int (x1)]) ++ List.replicate (2 - (lg_sl ([.ref (a 0), .int (x1)])).length) Slot.unset).toArray = ls at hl ⊢
  have hl : lv_has ls 2 [(0, .ref (a 0)), (1, .int (x1))] := hl
  unfold f_X5_wholeOf at hf
  refine lv_aload_n hx hb dX5_wholeOf_0 rfl (lv_at hl 0 rfl) ?_
  refine va_get (D := (dC, dI)) (ci := 5) (v := .ref (a 5)) (C := RX5) (T := TX5) (N := 17) hx hb hts in_X5_wholeOf_X5 hown hK hP 0 rfl rfl 11 (by decide) (hts (.fieldLink RX5 24 "BackLoans$Town" "pence" "[I") (by decide +kernel)) (fun _ h9 => h9) rfl dX5_wholeOf_1 ?_
  refine lv_iload_n hx hb dX5_wholeOf_4 rfl (lv_at hl 1 rfl) ?_
  obtain ⟨hi1, hf⟩ := gi_e hf
  refine va_iald hx hb hK hP 5 0 rfl rfl hi1 dX5_wholeOf_5 ?_
  refine lv_aload_n hx hb dX5_wholeOf_6 rfl (lv_at hl 0 rfl) ?_
  refine va_get (D := (dC, dI)) (ci := 5) (v := .ref (a 6)) (C := RX5) (T := TX5) (N := 17) hx hb hts in_X5_wholeOf_X5 hown hK hP 0 rfl rfl 12 (by decide) (hts (.fieldLink RX5 27 "BackLoans$Town" "times" "[I") (by decide +kernel)) (fun _ h9 => h9) rfl dX5_wholeOf_7 ?_
  refine lv_iload_n hx hb dX5_wholeOf_10 rfl (lv_at hl 1 rfl) ?_
  obtain ⟨hi2, hf⟩ := gi_e hf
  refine va_iald hx hb hK hP 6 0 rfl rfl hi2 dX5_wholeOf_11 ?_
  refine lv_imul hx hb dX5_wholeOf_12 ?_
  refine lv_aload_n hx hb dX5_wholeOf_13 rfl (lv_at hl 0 rfl) ?_
  refine lv_aload_n hx hb dX5_wholeOf_14 rfl (lv_at hl 0 rfl) ?_
  refine va_get (D := (dC, dI)) (ci := 5) (v := .ref (a 5)) (C := RX5) (T := TX5) (N := 17) hx hb hts in_X5_wholeOf_X5 hown hK hP 0 rfl rfl 11 (by decide) (hts (.fieldLink RX5 24 "BackLoans$Town" "pence" "[I") (by decide +kernel)) (fun _ h9 => h9) rfl dX5_wholeOf_15 ?_
  refine lv_iload_n hx hb dX5_wholeOf_18 rfl (lv_at hl 1 rfl) ?_
  obtain ⟨hi3, hf⟩ := gi_e hf
  refine va_iald hx hb hK hP 5 0 rfl rfl hi3 dX5_wholeOf_19 ?_
  refine lv_aload_n hx hb dX5_wholeOf_20 rfl (lv_at hl 0 rfl) ?_
  refine va_get (D := (dC, dI)) (ci := 5) (v := .ref (a 6)) (C := RX5) (T := TX5) (N := 17) hx hb hts in_X5_wholeOf_X5 hown hK hP 0 rfl rfl 12 (by decide) (hts (.fieldLink RX5 27 "BackLoans$Town" "times" "[I") (by decide +kernel)) (fun _ h9 => h9) rfl dX5_wholeOf_21 ?_
  refine lv_iload_n hx hb dX5_wholeOf_24 rfl (lv_at hl 1 rfl) ?_
  obtain ⟨hi4, hf⟩ := gi_e hf
  refine va_iald hx hb hK hP 6 0 rfl rfl hi4 dX5_wholeOf_25 ?_
  obtain ⟨r26, hr26, hf⟩ := bn_e hf
  have hPc := hP.sub (ws' := (wT cs a T)) [0, 1, 2, 3, 4, 5, 6, 7, 8, 9, 10] rfl
  refine vp_callSi (W.runV (As := [.int (((T.2 4) (x1).toNatClampNeg)), .int (((T.2 5) (x1).toNatClampNeg))]) (rest := [.int ((((T.2 4) (x1).toNatClampNeg) * ((T.2 5) (x1).toNatClampNeg)))]) C (c_X5_gainOf l dC dI cs a T ((T.2 4) (x1).toNatClampNeg) ((T.2 5) (x1).toNatClampNeg) r26 hr26) (cwV 2 hts gX5_wholeOf_X5_gainOf rfl rfl rfl (by decide +kernel) ⟨Nat.le_of_ble_eq_true rfl, Nat.le_of_ble_eq_true rfl⟩) ⟨(fun a U g mk q => ⟨q.1, q.2.1, GE.calling q.2.2⟩), va_recv hK hPc (ci := 5) (q0 := 0) rfl rfl, (fun U hU hW => ⟨rfl, by rw [hU]; exact hPc, GE.warm hW G⟩)⟩ rfl rfl hl.1 rfl (lv_room (Nat.le_of_ble_eq_true rfl)) dX5_wholeOf_26 ⟨Nat.le_of_ble_eq_true rfl, Nat.le_of_ble_eq_true rfl⟩) (fun qr26 hqr26 => ?_)
  obtain rfl := hqr26.symm
  refine lv_iadd hx hb dX5_wholeOf_29 ?_
  exact hR _ _ _ dX5_wholeOf_30 hf

theorem in_X5_payOrLack_X5 : ∀ w ∈ wsX50, w ∈ wsX5_payOrLack := by decide +kernel
def f_X5_payOrLack (x1 : Int32) (T : Tw) : Option Tw :=
  bn (f_X5_wholeOf x1 T) fun r2 =>
  if r2 ≤ (T.1 0) then (
    gi (x1) 8 <|
    lett ((T.2 3) (x1).toNatClampNeg) fun x3_31 =>
    lett ((upd T.1 0 (((T.1 0) - r2)), T.2)) fun T_39 =>
    gi (x3_31) 6 <|
    gi (x3_31) 6 <|
    lett ((T_39.1, va_up T_39.2 2 (upd (T_39.2 2) (x3_31).toNatClampNeg ((if (((T_39.2 2) (x3_31).toNatClampNeg) + r2) < (9999 : Int32) then (((T_39.2 2) (x3_31).toNatClampNeg) + r2) else (9999 : Int32)))))) fun T_61 =>
    gi (x1) 8 <|
    lett ((T_61.1, va_up T_61.2 6 (upd (T_61.2 6) (x1).toNatClampNeg ((1 : Int32))))) fun T_68 =>
    some T_68
  ) else (
    lett ((upd T.1 3 (((T.1 3) + (1 : Int32))), T.2)) fun T_21 =>
    some T_21
  )
set_option maxHeartbeats 4000000 in
set_option maxRecDepth 100000 in
theorem c_X5_payOrLack (l : Launch) (dC : Nat → ClassId) (dI : Nat → Nat → Nat) (cs : Nat → ClassId) (a : Nat → Nat) (sz : Nat) (T : Tw) (x1 : Int32) (res : Tw) (hf : f_X5_payOrLack x1 T = some res) : Met l yX5_payOrLack wsX5_payOrLack ({ frames := 2, cells := 0, slots := 0, locals := 43 }) (va_Pc [.ref (a 0), .int (x1)] (fun U => U.heap.size = sz ∧ va_P (dC, dI) vwCl (wT cs a T) U.heap ∧ GE dC dI cs U ∧ va_D (fun _ => True) (wT cs a T))) (va_Qv (fun u : Tw => u = res) (fun u t => va_P (dC, dI) vwCl ((fun u : Tw => (wT cs a u)) u) t.heap ∧ va_D (va_A (wT cs a T) sz) ((fun u : Tw => (wT cs a u)) u)) (va_A (wT cs a T) sz)) 0 0 (va_A (wT cs a T) sz) := by
  refine Met.ofW (cc := cX5_payOrLack) (maxL := 4) (ret := none) (by decide) rfl ?_
  intro p e s m args below meth c s₁ B hml hv
  obtain ⟨rfl, hsz, hP, G, hD0⟩ := hv
  have hts := atoms_spec (ws := wsX5_payOrLack) B.pre
  have hown : s.vm.findClass RX5 = some m.cls := findClass_of_methodNamed B.named
  have hlocks := B.notSynchronized
  have hx := B.exec
  have hb := B.bytes
  have hr := B.returns
  have C : CallFix p m c cX5_payOrLack 4 s _ wsX5_payOrLack RX5 := ⟨hx, hb, hml, hown, hts⟩
  obtain ⟨hK, hN⟩ := id G
  subst hsz
  have hD := hD0.self (sz := s.heap.size)
  generalize hAe : va_A (wT cs a T) s.heap.size = A at hD ⊢
  have hA : ∀ q : Nat, s.heap.size ≤ q → A q := fun q h => by rw [← hAe]; exact Or.inr h
  have hS : va_S A s.heap s.heap [] := va_S.rf
  have hR : RTv p l e ({ frames := 2, cells := 0, slots := 0, locals := 43 }) s m ([.ref (a 0), .int (x1)] : List Value).toArray below meth c cX5_payOrLack (MQ below (va_Qv (fun u : Tw => u = res) (fun u t => va_P (dC, dI) vwCl ((fun u : Tw => (wT cs a u)) u) t.heap ∧ va_D A ((fun u : Tw => (wT cs a u)) u)) A) ([.ref (a 0), .int (x1)] : List Value).toArray s 0 0 A) (dC, dI) A (fun u : Tw => (wT cs a u)) res := fun H locs pc ls u dd h hP hD hS => W.vret hx hb hr (fun t ht hW => ⟨⟨u, rfl, by cases h; rfl, by rw [ht]; exact hP, hD⟩, hS.F ht⟩) hS.2.2 dd
  have hl := lv_entry ([.ref (a 0), .int (x1)]) (n := 4) (Nat.le_of_ble_eq_true rfl)
  rw [lg_entry_eq]
  generalize (lg_sl ([.ref (a 0), .int (x1)]) ++ List.replicate (4 - (lg_sl ([.ref (a 0), .int (x1)])).length) Slot.unset).toArray = ls at hl ⊢
  have hl : lv_has ls 4 [(0, .ref (a 0)), (1, .int (x1))] := hl
  unfold f_X5_payOrLack at hf
  refine lv_aload_n hx hb dX5_payOrLack_0 rfl (lv_at hl 0 rfl) ?_
  refine lv_iload_n hx hb dX5_payOrLack_1 rfl (lv_at hl 1 rfl) ?_
  obtain ⟨r2, hr2, hf⟩ := bn_e hf
  have hPc := hP.sub (ws' := (wT cs a T)) [0, 1, 2, 3, 4, 5, 6, 7, 8, 9, 10] rfl
  refine vp_callSi (W.runV (As := [.int (x1)]) (rest := []) C (c_X5_wholeOf l dC dI cs a T x1 r2 hr2) (cwV 1 hts gX5_payOrLack_X5_wholeOf rfl rfl rfl (by decide +kernel) ⟨Nat.le_of_ble_eq_true rfl, Nat.le_of_ble_eq_true rfl⟩) ⟨(fun a U g mk q => ⟨q.1, q.2.1, GE.calling q.2.2⟩), va_recv hK hPc (ci := 5) (q0 := 0) rfl rfl, (fun U hU hW => ⟨rfl, by rw [hU]; exact hPc, GE.warm hW G⟩)⟩ rfl rfl hl.1 rfl (lv_room (Nat.le_of_ble_eq_true rfl)) dX5_payOrLack_2 ⟨Nat.le_of_ble_eq_true rfl, Nat.le_of_ble_eq_true rfl⟩) (fun qr2 hqr2 => ?_)
  obtain rfl := hqr2.symm
  refine lv_istore_n (lv' := [(2, .int (r2)), (0, .ref (a 0)), (1, .int (x1))]) hx hb dX5_payOrLack_5 rfl hl (by decide) rfl (fun ls hl => ?_)
  refine lv_aload_n hx hb dX5_payOrLack_6 rfl (lv_at hl 1 rfl) ?_
  refine va_get (D := (dC, dI)) (ci := 5) (v := .int ((T.1 0))) (C := RX5) (T := TX5) (N := 17) hx hb hts in_X5_payOrLack_X5 hown hK hP 0 rfl rfl 0 (by decide) (hts (.fieldLink RX5 42 "BackLoans$Town" "chest" "I") (by decide +kernel)) (fun _ h9 => h9) rfl dX5_payOrLack_7 ?_
  refine lv_iload_n hx hb dX5_payOrLack_10 rfl (lv_at hl 0 rfl) ?_
  refine lv_icmp_ge (tgt := 25) hx hb dX5_payOrLack_11 (by decide) (fun c1 => ?_) (fun c1 => ?_)
  · replace hf := it_t c1 hf
    refine lv_aload_n hx hb dX5_payOrLack_25 rfl (lv_at hl 1 rfl) ?_
    refine va_get (D := (dC, dI)) (ci := 5) (v := .ref (a 4)) (C := RX5) (T := TX5) (N := 17) hx hb hts in_X5_payOrLack_X5 hown hK hP 0 rfl rfl 10 (by decide) (hts (.fieldLink RX5 21 "BackLoans$Town" "owner" "[I") (by decide +kernel)) (fun _ h9 => h9) rfl dX5_payOrLack_26 ?_
    refine lv_iload_n hx hb dX5_payOrLack_29 rfl (lv_at hl 2 rfl) ?_
    obtain ⟨hi2, hf⟩ := gi_e hf
    refine va_iald hx hb hK hP 4 0 rfl rfl hi2 dX5_payOrLack_30 ?_
    refine lv_topi (fun x3_31 ex3_31 => ?_)
    replace hf := lett_s ex3_31 hf
    refine lv_istore_n (lv' := [(3, .int (x3_31)), (2, .int (r2)), (0, .ref (a 0)), (1, .int (x1))]) hx hb dX5_payOrLack_31 rfl hl (by decide) rfl (fun ls hl => ?_)
    refine lv_aload_n hx hb dX5_payOrLack_32 rfl (lv_at hl 2 rfl) ?_
    refine lv_dup hx hb dX5_payOrLack_33 rfl ?_
    refine va_get (D := (dC, dI)) (ci := 5) (v := .int ((T.1 0))) (C := RX5) (T := TX5) (N := 17) hx hb hts in_X5_payOrLack_X5 hown hK hP 0 rfl rfl 0 (by decide) (hts (.fieldLink RX5 42 "BackLoans$Town" "chest" "I") (by decide +kernel)) (fun _ h9 => h9) rfl dX5_payOrLack_34 ?_
    refine lv_iload_n hx hb dX5_payOrLack_37 rfl (lv_at hl 1 rfl) ?_
    refine lv_isub hx hb dX5_payOrLack_38 ?_
    refine va_put (D := (dC, dI)) (ci := 5) (v := .int (((T.1 0) - r2))) (ty := .int) (C := RX5) (T := TX5) (N := 17) hx hb hts in_X5_payOrLack_X5 tyX5 tyX5_ok nmX5 hown hK hP hD hS 0 rfl rfl 0 (by decide) (hts (.fieldLink RX5 42 "BackLoans$Town" "chest" "I") (by decide +kernel)) (fun _ h9 => h9) rfl (by decide +kernel) rfl rfl (Nat.le_of_ble_eq_true rfl) dX5_payOrLack_39 (fun H locs hP hD hS => ?_)
    obtain ⟨T_39, hP, hD, hf⟩ := st_nm (ws := fun T_39 : Tw => (wT cs a T_39)) ((upd T.1 0 (((T.1 0) - r2)), T.2)) hP hD hf
    refine lv_aload_n hx hb dX5_payOrLack_42 rfl (lv_at hl 2 rfl) ?_
    refine va_get (D := (dC, dI)) (ci := 5) (v := .ref (a 3)) (C := RX5) (T := TX5) (N := 17) hx hb hts in_X5_payOrLack_X5 hown hK hP 0 rfl rfl 9 (by decide) (hts (.fieldLink RX5 18 "BackLoans$Town" "purse" "[I") (by decide +kernel)) (fun _ h9 => h9) rfl dX5_payOrLack_43 ?_
    refine lv_iload_n hx hb dX5_payOrLack_46 rfl (lv_at hl 0 rfl) ?_
    refine lv_sipush (v := 9999) hx hb dX5_payOrLack_47 (by decide) ?_
    refine lv_aload_n hx hb dX5_payOrLack_50 rfl (lv_at hl 2 rfl) ?_
    refine va_get (D := (dC, dI)) (ci := 5) (v := .ref (a 3)) (C := RX5) (T := TX5) (N := 17) hx hb hts in_X5_payOrLack_X5 hown hK hP 0 rfl rfl 9 (by decide) (hts (.fieldLink RX5 18 "BackLoans$Town" "purse" "[I") (by decide +kernel)) (fun _ h9 => h9) rfl dX5_payOrLack_51 ?_
    refine lv_iload_n hx hb dX5_payOrLack_54 rfl (lv_at hl 0 rfl) ?_
    obtain ⟨hi3, hf⟩ := gi_e hf
    refine va_iald hx hb hK hP 3 0 rfl rfl hi3 dX5_payOrLack_55 ?_
    refine lv_iload_n hx hb dX5_payOrLack_56 rfl (lv_at hl 1 rfl) ?_
    refine lv_iadd hx hb dX5_payOrLack_57 ?_
    refine va_mmin hx hb (hml.trans hl.1.symm) hown (hts (.methodLink RX5 95 Lib.Math.min.name) (by decide +kernel)) (hts (.static Lib.Math.min.name) (by decide +kernel)) (hts (.initialized "java/lang/Math") (by decide +kernel)) (hts (.code Lib.Math.min.name Lib.Math.min.code 2 (some .int)) (by decide +kernel)) (Nat.le_of_ble_eq_true rfl) (Nat.le_of_ble_eq_true rfl) (Nat.le_of_ble_eq_true rfl) (Nat.le_of_ble_eq_true rfl) dX5_payOrLack_58 ?_
    obtain ⟨hi4, hf⟩ := gi_e hf
    refine va_iast hx hb hK hP hD hS 3 0 rfl rfl hi4 dX5_payOrLack_61 (fun H locs hP hD hS => ?_)
    obtain ⟨T_61, hP, hD, hf⟩ := st_nm (ws := fun T_61 : Tw => (wT cs a T_61)) ((T_39.1, va_up T_39.2 2 (upd (T_39.2 2) (x3_31).toNatClampNeg ((if (((T_39.2 2) (x3_31).toNatClampNeg) + r2) < (9999 : Int32) then (((T_39.2 2) (x3_31).toNatClampNeg) + r2) else (9999 : Int32)))))) hP hD hf
    refine lv_aload_n hx hb dX5_payOrLack_62 rfl (lv_at hl 2 rfl) ?_
    refine va_get (D := (dC, dI)) (ci := 5) (v := .ref (a 7)) (C := RX5) (T := TX5) (N := 17) hx hb hts in_X5_payOrLack_X5 hown hK hP 0 rfl rfl 13 (by decide) (hts (.fieldLink RX5 30 "BackLoans$Town" "state" "[I") (by decide +kernel)) (fun _ h9 => h9) rfl dX5_payOrLack_63 ?_
    refine lv_iload_n hx hb dX5_payOrLack_66 rfl (lv_at hl 3 rfl) ?_
    refine lv_iconst (v := 1) hx hb dX5_payOrLack_67 (by decide) ?_
    obtain ⟨hi5, hf⟩ := gi_e hf
    refine va_iast hx hb hK hP hD hS 7 0 rfl rfl hi5 dX5_payOrLack_68 (fun H locs hP hD hS => ?_)
    obtain ⟨T_68, hP, hD, hf⟩ := st_nm (ws := fun T_68 : Tw => (wT cs a T_68)) ((T_61.1, va_up T_61.2 6 (upd (T_61.2 6) (x1).toNatClampNeg ((1 : Int32))))) hP hD hf
    exact hR _ _ _ _ _ dX5_payOrLack_69 hf hP hD hS
  · replace hf := it_f c1 hf
    refine lv_aload_n hx hb dX5_payOrLack_14 rfl (lv_at hl 1 rfl) ?_
    refine lv_dup hx hb dX5_payOrLack_15 rfl ?_
    refine va_get (D := (dC, dI)) (ci := 5) (v := .int ((T.1 3))) (C := RX5) (T := TX5) (N := 17) hx hb hts in_X5_payOrLack_X5 hown hK hP 0 rfl rfl 3 (by decide) (hts (.fieldLink RX5 52 "BackLoans$Town" "lacks" "I") (by decide +kernel)) (fun _ h9 => h9) rfl dX5_payOrLack_16 ?_
    refine lv_iconst (v := 1) hx hb dX5_payOrLack_19 (by decide) ?_
    refine lv_iadd hx hb dX5_payOrLack_20 ?_
    refine va_put (D := (dC, dI)) (ci := 5) (v := .int (((T.1 3) + (1 : Int32)))) (ty := .int) (C := RX5) (T := TX5) (N := 17) hx hb hts in_X5_payOrLack_X5 tyX5 tyX5_ok nmX5 hown hK hP hD hS 0 rfl rfl 3 (by decide) (hts (.fieldLink RX5 52 "BackLoans$Town" "lacks" "I") (by decide +kernel)) (fun _ h9 => h9) rfl (by decide +kernel) rfl rfl (Nat.le_of_ble_eq_true rfl) dX5_payOrLack_21 (fun H locs hP hD hS => ?_)
    obtain ⟨T_21, hP, hD, hf⟩ := st_nm (ws := fun T_21 : Tw => (wT cs a T_21)) ((upd T.1 3 (((T.1 3) + (1 : Int32))), T.2)) hP hD hf
    exact hR _ _ _ _ _ dX5_payOrLack_24 hf hP hD hS

theorem in_X5_spendHalf_X5 : ∀ w ∈ wsX50, w ∈ wsX5_spendHalf := by decide +kernel
def f_X5_spendHalf_25 (x1 : Int32) (s0 : Int32) (T : Tw)  : Option Tw :=
  if s0 = 0 then (
    some T
  ) else (
    gi (x1) 6 <|
    if ((T.2 2) (x1).toNatClampNeg) ≤ (50 : Int32) then (
      some T
    ) else (
      gi (x1) 6 <|
      gi (x1) 6 <|
      lett ((T.1, va_up T.2 2 (upd (T.2 2) (x1).toNatClampNeg ((((T.2 2) (x1).toNatClampNeg) / (2 : Int32)))))) fun T_50 =>
      some T_50
    )
  )
set_option maxHeartbeats 4000000 in
set_option maxRecDepth 100000 in
theorem b_X5_spendHalf_25 {p : Program} {l : Launch} {e : Env} {s : State} {m : MethodId} {args : Array Value} {below : List Frame} {meth : Method} {c : Code} {Q : State → Prop} {dC : Nat → ClassId} {dI : Nat → Nat → Nat} {cs : Nat → ClassId} {A : Nat → Prop} {a : Nat → Nat} {res : Tw} (C : CallFix p m c cX5_spendHalf 3 s args wsX5_spendHalf RX5) (G : GE dC dI cs s) (hA : ∀ q : Nat, s.heap.size ≤ q → A q) (hR : RTv p l e ({ frames := 0, cells := 0, slots := 0, locals := 0 }) s m args below meth c cX5_spendHalf Q (dC, dI) A (fun u : Tw => (wT cs a u)) res) (x1 : Int32) (s0 : Int32) (T : Tw)   (H : Heap) (locs : List Loc) (ls : Array Slot) (hl : lv_has ls 3 [(0, .ref (a 0)), (1, .int (x1))]) (hP : va_P (dC, dI) vwCl (wT cs a T) H) (hD : va_D A (wT cs a T)) (hS : va_S A s.heap H locs) (hf : f_X5_spendHalf_25 x1 s0 T = some res) : W p l e ({ frames := 0, cells := 0, slots := 0, locals := 0 }) s m args below meth c H locs 0 0 Q (F0 m 25 ls [.int (s0)]) := by
  obtain ⟨hx, hb, hml, hown, hts⟩ := id C
  obtain ⟨hK, hN⟩ := id G
  unfold f_X5_spendHalf_25 at hf
  refine lv_istore_n (lv' := [(2, .int (s0)), (0, .ref (a 0)), (1, .int (x1))]) hx hb dX5_spendHalf_25 rfl hl (by decide) rfl (fun ls hl => ?_)
  refine lv_iload_n hx hb dX5_spendHalf_26 rfl (lv_at hl 0 rfl) ?_
  refine lv_if_eq (tgt := 51) hx hb dX5_spendHalf_27 (by decide) (fun c1 => ?_) (fun c1 => ?_)
  · replace hf := it_t c1 hf
    exact hR _ _ _ _ _ dX5_spendHalf_51 hf hP hD hS
  · replace hf := it_f c1 hf
    refine lv_aload_n hx hb dX5_spendHalf_30 rfl (lv_at hl 1 rfl) ?_
    refine va_get (D := (dC, dI)) (ci := 5) (v := .ref (a 3)) (C := RX5) (T := TX5) (N := 17) hx hb hts in_X5_spendHalf_X5 hown hK hP 0 rfl rfl 9 (by decide) (hts (.fieldLink RX5 18 "BackLoans$Town" "purse" "[I") (by decide +kernel)) (fun _ h9 => h9) rfl dX5_spendHalf_31 ?_
    refine lv_iload_n hx hb dX5_spendHalf_34 rfl (lv_at hl 2 rfl) ?_
    obtain ⟨hi2, hf⟩ := gi_e hf
    refine va_iald hx hb hK hP 3 0 rfl rfl hi2 dX5_spendHalf_35 ?_
    refine lv_bipush (v := 50) hx hb dX5_spendHalf_36 (by decide) ?_
    refine lv_icmp_le (tgt := 51) hx hb dX5_spendHalf_38 (by decide) (fun c3 => ?_) (fun c3 => ?_)
    · replace hf := it_t c3 hf
      exact hR _ _ _ _ _ dX5_spendHalf_51 hf hP hD hS
    · replace hf := it_f c3 hf
      refine lv_aload_n hx hb dX5_spendHalf_41 rfl (lv_at hl 1 rfl) ?_
      refine va_get (D := (dC, dI)) (ci := 5) (v := .ref (a 3)) (C := RX5) (T := TX5) (N := 17) hx hb hts in_X5_spendHalf_X5 hown hK hP 0 rfl rfl 9 (by decide) (hts (.fieldLink RX5 18 "BackLoans$Town" "purse" "[I") (by decide +kernel)) (fun _ h9 => h9) rfl dX5_spendHalf_42 ?_
      refine lv_iload_n hx hb dX5_spendHalf_45 rfl (lv_at hl 2 rfl) ?_
      refine lv_dup2_11 hx hb dX5_spendHalf_46 rfl rfl ?_
      obtain ⟨hi4, hf⟩ := gi_e hf
      refine va_iald hx hb hK hP 3 0 rfl rfl hi4 dX5_spendHalf_47 ?_
      refine lv_iconst (v := 2) hx hb dX5_spendHalf_48 (by decide) ?_
      refine lv_idiv hx hb dX5_spendHalf_49 (by decide) ?_
      obtain ⟨hi5, hf⟩ := gi_e hf
      refine va_iast hx hb hK hP hD hS 3 0 rfl rfl hi5 dX5_spendHalf_50 (fun H locs hP hD hS => ?_)
      obtain ⟨T_50, hP, hD, hf⟩ := st_nm (ws := fun T_50 : Tw => (wT cs a T_50)) ((T.1, va_up T.2 2 (upd (T.2 2) (x1).toNatClampNeg ((((T.2 2) (x1).toNatClampNeg) / (2 : Int32)))))) hP hD hf
      exact hR _ _ _ _ _ dX5_spendHalf_51 hf hP hD hS
def f_X5_spendHalf_20 (x1 : Int32) (T : Tw)  : Option Tw :=
  f_X5_spendHalf_25 x1 (1 : Int32) T
set_option maxHeartbeats 4000000 in
set_option maxRecDepth 100000 in
theorem b_X5_spendHalf_20 {p : Program} {l : Launch} {e : Env} {s : State} {m : MethodId} {args : Array Value} {below : List Frame} {meth : Method} {c : Code} {Q : State → Prop} {dC : Nat → ClassId} {dI : Nat → Nat → Nat} {cs : Nat → ClassId} {A : Nat → Prop} {a : Nat → Nat} {res : Tw} (C : CallFix p m c cX5_spendHalf 3 s args wsX5_spendHalf RX5) (G : GE dC dI cs s) (hA : ∀ q : Nat, s.heap.size ≤ q → A q) (hR : RTv p l e ({ frames := 0, cells := 0, slots := 0, locals := 0 }) s m args below meth c cX5_spendHalf Q (dC, dI) A (fun u : Tw => (wT cs a u)) res) (x1 : Int32) (T : Tw)   (H : Heap) (locs : List Loc) (ls : Array Slot) (hl : lv_has ls 3 [(0, .ref (a 0)), (1, .int (x1))]) (hP : va_P (dC, dI) vwCl (wT cs a T) H) (hD : va_D A (wT cs a T)) (hS : va_S A s.heap H locs) (hf : f_X5_spendHalf_20 x1 T = some res) : W p l e ({ frames := 0, cells := 0, slots := 0, locals := 0 }) s m args below meth c H locs 0 0 Q (F0 m 20 ls []) := by
  obtain ⟨hx, hb, hml, hown, hts⟩ := id C
  obtain ⟨hK, hN⟩ := id G
  unfold f_X5_spendHalf_20 at hf
  refine lv_iconst (v := 1) hx hb dX5_spendHalf_20 (by decide) ?_
  refine lv_goto (tgt := 25) hx hb dX5_spendHalf_21 (by decide) ?_
  exact b_X5_spendHalf_25 C G hA hR x1 (1 : Int32) T _ _ _ (lv_sub hl [0, 1] rfl) hP hD hS hf
def f_X5_spendHalf (x1 : Int32) (T : Tw) : Option Tw :=
  gi (x1) 6 <|
  if ((T.2 0) (x1).toNatClampNeg) = (2 : Int32) then (
    f_X5_spendHalf_20 x1 T
  ) else (
    gi (x1) 6 <|
    if ((T.2 0) (x1).toNatClampNeg) = (4 : Int32) then (
      f_X5_spendHalf_20 x1 T
    ) else (
      f_X5_spendHalf_25 x1 (0 : Int32) T
    )
  )
set_option maxHeartbeats 4000000 in
set_option maxRecDepth 100000 in
theorem c_X5_spendHalf (l : Launch) (dC : Nat → ClassId) (dI : Nat → Nat → Nat) (cs : Nat → ClassId) (a : Nat → Nat) (sz : Nat) (T : Tw) (x1 : Int32) (res : Tw) (hf : f_X5_spendHalf x1 T = some res) : Met l yX5_spendHalf wsX5_spendHalf ({ frames := 0, cells := 0, slots := 0, locals := 0 }) (va_Pc [.ref (a 0), .int (x1)] (fun U => U.heap.size = sz ∧ va_P (dC, dI) vwCl (wT cs a T) U.heap ∧ GE dC dI cs U ∧ va_D (fun _ => True) (wT cs a T))) (va_Qv (fun u : Tw => u = res) (fun u t => va_P (dC, dI) vwCl ((fun u : Tw => (wT cs a u)) u) t.heap ∧ va_D (va_A (wT cs a T) sz) ((fun u : Tw => (wT cs a u)) u)) (va_A (wT cs a T) sz)) 0 0 (va_A (wT cs a T) sz) := by
  refine Met.ofW (cc := cX5_spendHalf) (maxL := 3) (ret := none) (by decide) rfl ?_
  intro p e s m args below meth c s₁ B hml hv
  obtain ⟨rfl, hsz, hP, G, hD0⟩ := hv
  have hts := atoms_spec (ws := wsX5_spendHalf) B.pre
  have hown : s.vm.findClass RX5 = some m.cls := findClass_of_methodNamed B.named
  have hlocks := B.notSynchronized
  have hx := B.exec
  have hb := B.bytes
  have hr := B.returns
  have C : CallFix p m c cX5_spendHalf 3 s _ wsX5_spendHalf RX5 := ⟨hx, hb, hml, hown, hts⟩
  obtain ⟨hK, hN⟩ := id G
  subst hsz
  have hD := hD0.self (sz := s.heap.size)
  generalize hAe : va_A (wT cs a T) s.heap.size = A at hD ⊢
  have hA : ∀ q : Nat, s.heap.size ≤ q → A q := fun q h => by rw [← hAe]; exact Or.inr h
  have hS : va_S A s.heap s.heap [] := va_S.rf
  have hR : RTv p l e ({ frames := 0, cells := 0, slots := 0, locals := 0 }) s m ([.ref (a 0), .int (x1)] : List Value).toArray below meth c cX5_spendHalf (MQ below (va_Qv (fun u : Tw => u = res) (fun u t => va_P (dC, dI) vwCl ((fun u : Tw => (wT cs a u)) u) t.heap ∧ va_D A ((fun u : Tw => (wT cs a u)) u)) A) ([.ref (a 0), .int (x1)] : List Value).toArray s 0 0 A) (dC, dI) A (fun u : Tw => (wT cs a u)) res := fun H locs pc ls u dd h hP hD hS => W.vret hx hb hr (fun t ht hW => ⟨⟨u, rfl, by cases h; rfl, by rw [ht]; exact hP, hD⟩, hS.F ht⟩) hS.2.2 dd
  have hl := lv_entry ([.ref (a 0), .int (x1)]) (n := 3) (Nat.le_of_ble_eq_true rfl)
  rw [lg_entry_eq]
  generalize (lg_sl ([.ref (a 0), .int (x1)]) ++ List.replicate (3 - (lg_sl ([.ref (a 0), .int (x1)])).length) Slot.unset).toArray = ls at hl ⊢
  have hl : lv_has ls 3 [(0, .ref (a 0)), (1, .int (x1))] := hl
  unfold f_X5_spendHalf at hf
  refine lv_aload_n hx hb dX5_spendHalf_0 rfl (lv_at hl 0 rfl) ?_
  refine va_get (D := (dC, dI)) (ci := 5) (v := .ref (a 1)) (C := RX5) (T := TX5) (N := 17) hx hb hts in_X5_spendHalf_X5 hown hK hP 0 rfl rfl 7 (by decide) (hts (.fieldLink RX5 9 "BackLoans$Town" "kind" "[I") (by decide +kernel)) (fun _ h9 => h9) rfl dX5_spendHalf_1 ?_
  refine lv_iload_n hx hb dX5_spendHalf_4 rfl (lv_at hl 1 rfl) ?_
  obtain ⟨hi1, hf⟩ := gi_e hf
  refine va_iald hx hb hK hP 1 0 rfl rfl hi1 dX5_spendHalf_5 ?_
  refine lv_iconst (v := 2) hx hb dX5_spendHalf_6 (by decide) ?_
  refine lv_icmp_eq (tgt := 20) hx hb dX5_spendHalf_7 (by decide) (fun c2 => ?_) (fun c2 => ?_)
  · replace hf := it_t c2 hf
    exact b_X5_spendHalf_20 C G hA hR x1 T _ _ _ (lv_sub hl [0, 1] rfl) hP hD hS hf
  · replace hf := it_f c2 hf
    refine lv_aload_n hx hb dX5_spendHalf_10 rfl (lv_at hl 0 rfl) ?_
    refine va_get (D := (dC, dI)) (ci := 5) (v := .ref (a 1)) (C := RX5) (T := TX5) (N := 17) hx hb hts in_X5_spendHalf_X5 hown hK hP 0 rfl rfl 7 (by decide) (hts (.fieldLink RX5 9 "BackLoans$Town" "kind" "[I") (by decide +kernel)) (fun _ h9 => h9) rfl dX5_spendHalf_11 ?_
    refine lv_iload_n hx hb dX5_spendHalf_14 rfl (lv_at hl 1 rfl) ?_
    obtain ⟨hi3, hf⟩ := gi_e hf
    refine va_iald hx hb hK hP 1 0 rfl rfl hi3 dX5_spendHalf_15 ?_
    refine lv_iconst (v := 4) hx hb dX5_spendHalf_16 (by decide) ?_
    refine lv_icmp_ne (tgt := 24) hx hb dX5_spendHalf_17 (by decide) (fun c4 => ?_) (fun c4 => ?_)
    · replace hf := it_f c4 hf
      refine lv_iconst (v := 0) hx hb dX5_spendHalf_24 (by decide) ?_
      exact b_X5_spendHalf_25 C G hA hR x1 (0 : Int32) T _ _ _ (lv_sub hl [0, 1] rfl) hP hD hS hf
    · replace hf := it_t c4 hf
      exact b_X5_spendHalf_20 C G hA hR x1 T _ _ _ (lv_sub hl [0, 1] rfl) hP hD hS hf

theorem in_X5_comesTo_X5 : ∀ w ∈ wsX50, w ∈ wsX5_comesTo := by decide +kernel
def f_X5_comesTo_63 (x1 : Int32) (x3 : Int32) (T : Tw)  : Option Int32 :=
  gi (x1) 6 <|
  if ((T.2 0) (x1).toNatClampNeg) = (4 : Int32) then (
    if ((T.1 2) - (T.1 2) / (12 : Int32) * (12 : Int32)) = (6 : Int32) then (
      lett (x3 + 60) fun x3_85 =>
      some x3_85
    ) else (
      some x3
    )
  ) else (
    some x3
  )
set_option maxHeartbeats 4000000 in
set_option maxRecDepth 100000 in
theorem b_X5_comesTo_63 {p : Program} {l : Launch} {e : Env} {s : State} {m : MethodId} {args : Array Value} {below : List Frame} {meth : Method} {c : Code} {Q : State → Prop} {dC : Nat → ClassId} {dI : Nat → Nat → Nat} {cs : Nat → ClassId} {a : Nat → Nat} {res : Int32} (C : CallFix p m c cX5_comesTo 4 s args wsX5_comesTo RX5) (G : GE dC dI cs s) (hR : RPi p l e ({ frames := 0, cells := 0, slots := 0, locals := 0 }) s m args below meth c cX5_comesTo Q res) {T : Tw} (hP : va_P (dC, dI) vwCl (wT cs a T) s.heap) (x1 : Int32) (x3 : Int32) (_ : Tw)   (ls : Array Slot) (hl : lv_has ls 4 [(0, .ref (a 0)), (1, .int (x1)), (3, .int (x3))]) (hf : f_X5_comesTo_63 x1 x3 T = some res) : W p l e ({ frames := 0, cells := 0, slots := 0, locals := 0 }) s m args below meth c s.heap [] 0 0 Q (F0 m 63 ls []) := by
  obtain ⟨hx, hb, hml, hown, hts⟩ := id C
  obtain ⟨hK, hN⟩ := id G
  unfold f_X5_comesTo_63 at hf
  refine lv_aload_n hx hb dX5_comesTo_63 rfl (lv_at hl 0 rfl) ?_
  refine va_get (D := (dC, dI)) (ci := 5) (v := .ref (a 1)) (C := RX5) (T := TX5) (N := 17) hx hb hts in_X5_comesTo_X5 hown hK hP 0 rfl rfl 7 (by decide) (hts (.fieldLink RX5 9 "BackLoans$Town" "kind" "[I") (by decide +kernel)) (fun _ h9 => h9) rfl dX5_comesTo_64 ?_
  refine lv_iload_n hx hb dX5_comesTo_67 rfl (lv_at hl 1 rfl) ?_
  obtain ⟨hi1, hf⟩ := gi_e hf
  refine va_iald hx hb hK hP 1 0 rfl rfl hi1 dX5_comesTo_68 ?_
  refine lv_iconst (v := 4) hx hb dX5_comesTo_69 (by decide) ?_
  refine lv_icmp_ne (tgt := 88) hx hb dX5_comesTo_70 (by decide) (fun c2 => ?_) (fun c2 => ?_)
  · replace hf := it_f c2 hf
    refine lv_iload_n hx hb dX5_comesTo_88 rfl (lv_at hl 2 rfl) ?_
    exact hR _ _ _ dX5_comesTo_89 hf
  · replace hf := it_t c2 hf
    refine lv_aload_n hx hb dX5_comesTo_73 rfl (lv_at hl 0 rfl) ?_
    refine va_get (D := (dC, dI)) (ci := 5) (v := .int ((T.1 2))) (C := RX5) (T := TX5) (N := 17) hx hb hts in_X5_comesTo_X5 hown hK hP 0 rfl rfl 2 (by decide) (hts (.fieldLink RX5 49 "BackLoans$Town" "month" "I") (by decide +kernel)) (fun _ h9 => h9) rfl dX5_comesTo_74 ?_
    refine lv_bipush (v := 12) hx hb dX5_comesTo_77 (by decide) ?_
    refine lv_irem hx hb dX5_comesTo_79 (by decide) ?_
    refine lv_bipush (v := 6) hx hb dX5_comesTo_80 (by decide) ?_
    refine lv_icmp_ne (tgt := 88) hx hb dX5_comesTo_82 (by decide) (fun c3 => ?_) (fun c3 => ?_)
    · replace hf := it_f c3 hf
      refine lv_iload_n hx hb dX5_comesTo_88 rfl (lv_at hl 2 rfl) ?_
      exact hR _ _ _ dX5_comesTo_89 hf
    · replace hf := it_t c3 hf
      obtain ⟨x3_85, ex3_85⟩ : ∃ y : Int32, y = (x3 + 60) := ⟨_, rfl⟩
      replace hf := lett_s ex3_85 hf
      refine lv_iinc (v := x3_85) (lv' := [(3, .int (x3_85)), (0, .ref (a 0)), (1, .int (x1))]) hx hb dX5_comesTo_85 hl (k := 2) rfl (by rw [ex3_85]; rfl) (by decide) rfl (fun ls hl => ?_)
      refine lv_iload_n hx hb dX5_comesTo_88 rfl (lv_at hl 0 rfl) ?_
      exact hR _ _ _ dX5_comesTo_89 hf
def f_X5_comesTo_49 (x1 : Int32) (s0 : Int32) (T : Tw)  : Option Int32 :=
  gi (x1) 6 <|
  if ((T.2 0) (x1).toNatClampNeg) = (3 : Int32) then (
    lett (s0 + 2) fun x3_60 =>
    f_X5_comesTo_63 x1 x3_60 T
  ) else (
    f_X5_comesTo_63 x1 s0 T
  )
set_option maxHeartbeats 4000000 in
set_option maxRecDepth 100000 in
theorem b_X5_comesTo_49 {p : Program} {l : Launch} {e : Env} {s : State} {m : MethodId} {args : Array Value} {below : List Frame} {meth : Method} {c : Code} {Q : State → Prop} {dC : Nat → ClassId} {dI : Nat → Nat → Nat} {cs : Nat → ClassId} {a : Nat → Nat} {res : Int32} (C : CallFix p m c cX5_comesTo 4 s args wsX5_comesTo RX5) (G : GE dC dI cs s) (hR : RPi p l e ({ frames := 0, cells := 0, slots := 0, locals := 0 }) s m args below meth c cX5_comesTo Q res) {T : Tw} (hP : va_P (dC, dI) vwCl (wT cs a T) s.heap) (x1 : Int32) (s0 : Int32) (_ : Tw)   (ls : Array Slot) (hl : lv_has ls 4 [(0, .ref (a 0)), (1, .int (x1))]) (hf : f_X5_comesTo_49 x1 s0 T = some res) : W p l e ({ frames := 0, cells := 0, slots := 0, locals := 0 }) s m args below meth c s.heap [] 0 0 Q (F0 m 49 ls [.int (s0)]) := by
  obtain ⟨hx, hb, hml, hown, hts⟩ := id C
  obtain ⟨hK, hN⟩ := id G
  unfold f_X5_comesTo_49 at hf
  refine lv_istore_n (lv' := [(3, .int (s0)), (0, .ref (a 0)), (1, .int (x1))]) hx hb dX5_comesTo_49 rfl hl (by decide) rfl (fun ls hl => ?_)
  refine lv_aload_n hx hb dX5_comesTo_50 rfl (lv_at hl 1 rfl) ?_
  refine va_get (D := (dC, dI)) (ci := 5) (v := .ref (a 1)) (C := RX5) (T := TX5) (N := 17) hx hb hts in_X5_comesTo_X5 hown hK hP 0 rfl rfl 7 (by decide) (hts (.fieldLink RX5 9 "BackLoans$Town" "kind" "[I") (by decide +kernel)) (fun _ h9 => h9) rfl dX5_comesTo_51 ?_
  refine lv_iload_n hx hb dX5_comesTo_54 rfl (lv_at hl 2 rfl) ?_
  obtain ⟨hi1, hf⟩ := gi_e hf
  refine va_iald hx hb hK hP 1 0 rfl rfl hi1 dX5_comesTo_55 ?_
  refine lv_iconst (v := 3) hx hb dX5_comesTo_56 (by decide) ?_
  refine lv_icmp_ne (tgt := 63) hx hb dX5_comesTo_57 (by decide) (fun c2 => ?_) (fun c2 => ?_)
  · replace hf := it_f c2 hf
    exact b_X5_comesTo_63 C G hR hP x1 s0 T _ (lv_sub hl [1, 2, 0] rfl) hf
  · replace hf := it_t c2 hf
    obtain ⟨x3_60, ex3_60⟩ : ∃ y : Int32, y = (s0 + 2) := ⟨_, rfl⟩
    replace hf := lett_s ex3_60 hf
    refine lv_iinc (v := x3_60) (lv' := [(3, .int (x3_60)), (0, .ref (a 0)), (1, .int (x1))]) hx hb dX5_comesTo_60 hl (k := 0) rfl (by rw [ex3_60]; rfl) (by decide) rfl (fun ls hl => ?_)
    exact b_X5_comesTo_63 C G hR hP x1 x3_60 T _ (lv_sub hl [1, 2, 0] rfl) hf
def f_X5_comesTo_43 (x1 : Int32) (T : Tw)  : Option Int32 :=
  gi (x1) 6 <|
  f_X5_comesTo_49 x1 ((T.2 1) (x1).toNatClampNeg) T
set_option maxHeartbeats 4000000 in
set_option maxRecDepth 100000 in
theorem b_X5_comesTo_43 {p : Program} {l : Launch} {e : Env} {s : State} {m : MethodId} {args : Array Value} {below : List Frame} {meth : Method} {c : Code} {Q : State → Prop} {dC : Nat → ClassId} {dI : Nat → Nat → Nat} {cs : Nat → ClassId} {a : Nat → Nat} {res : Int32} (C : CallFix p m c cX5_comesTo 4 s args wsX5_comesTo RX5) (G : GE dC dI cs s) (hR : RPi p l e ({ frames := 0, cells := 0, slots := 0, locals := 0 }) s m args below meth c cX5_comesTo Q res) {T : Tw} (hP : va_P (dC, dI) vwCl (wT cs a T) s.heap) (x1 : Int32) (_ : Tw)   (ls : Array Slot) (hl : lv_has ls 4 [(0, .ref (a 0)), (1, .int (x1))]) (hf : f_X5_comesTo_43 x1 T = some res) : W p l e ({ frames := 0, cells := 0, slots := 0, locals := 0 }) s m args below meth c s.heap [] 0 0 Q (F0 m 43 ls []) := by
  obtain ⟨hx, hb, hml, hown, hts⟩ := id C
  obtain ⟨hK, hN⟩ := id G
  unfold f_X5_comesTo_43 at hf
  refine lv_aload_n hx hb dX5_comesTo_43 rfl (lv_at hl 0 rfl) ?_
  refine va_get (D := (dC, dI)) (ci := 5) (v := .ref (a 2)) (C := RX5) (T := TX5) (N := 17) hx hb hts in_X5_comesTo_X5 hown hK hP 0 rfl rfl 8 (by decide) (hts (.fieldLink RX5 15 "BackLoans$Town" "means" "[I") (by decide +kernel)) (fun _ h9 => h9) rfl dX5_comesTo_44 ?_
  refine lv_iload_n hx hb dX5_comesTo_47 rfl (lv_at hl 1 rfl) ?_
  obtain ⟨hi1, hf⟩ := gi_e hf
  refine va_iald hx hb hK hP 2 0 rfl rfl hi1 dX5_comesTo_48 ?_
  exact b_X5_comesTo_49 C G hR hP x1 ((T.2 1) (x1).toNatClampNeg) T _ (lv_sub hl [0, 1] rfl) hf
def f_X5_comesTo_25 (x1 : Int32) (s0 : Int32) (T : Tw)  : Option Int32 :=
  if s0 = 0 then (
    f_X5_comesTo_43 x1 T
  ) else (
    if ((T.1 2) - (T.1 2) / (3 : Int32) * (3 : Int32)) = 0 then (
      f_X5_comesTo_49 x1 (0 : Int32) T
    ) else (
      f_X5_comesTo_43 x1 T
    )
  )
set_option maxHeartbeats 4000000 in
set_option maxRecDepth 100000 in
theorem b_X5_comesTo_25 {p : Program} {l : Launch} {e : Env} {s : State} {m : MethodId} {args : Array Value} {below : List Frame} {meth : Method} {c : Code} {Q : State → Prop} {dC : Nat → ClassId} {dI : Nat → Nat → Nat} {cs : Nat → ClassId} {a : Nat → Nat} {res : Int32} (C : CallFix p m c cX5_comesTo 4 s args wsX5_comesTo RX5) (G : GE dC dI cs s) (hR : RPi p l e ({ frames := 0, cells := 0, slots := 0, locals := 0 }) s m args below meth c cX5_comesTo Q res) {T : Tw} (hP : va_P (dC, dI) vwCl (wT cs a T) s.heap) (x1 : Int32) (s0 : Int32) (_ : Tw)   (ls : Array Slot) (hl : lv_has ls 4 [(0, .ref (a 0)), (1, .int (x1))]) (hf : f_X5_comesTo_25 x1 s0 T = some res) : W p l e ({ frames := 0, cells := 0, slots := 0, locals := 0 }) s m args below meth c s.heap [] 0 0 Q (F0 m 25 ls [.int (s0)]) := by
  obtain ⟨hx, hb, hml, hown, hts⟩ := id C
  obtain ⟨hK, hN⟩ := id G
  unfold f_X5_comesTo_25 at hf
  refine lv_istore_n (lv' := [(2, .int (s0)), (0, .ref (a 0)), (1, .int (x1))]) hx hb dX5_comesTo_25 rfl hl (by decide) rfl (fun ls hl => ?_)
  refine lv_iload_n hx hb dX5_comesTo_26 rfl (lv_at hl 0 rfl) ?_
  refine lv_if_eq (tgt := 43) hx hb dX5_comesTo_27 (by decide) (fun c1 => ?_) (fun c1 => ?_)
  · replace hf := it_t c1 hf
    exact b_X5_comesTo_43 C G hR hP x1 T _ (lv_sub hl [1, 2] rfl) hf
  · replace hf := it_f c1 hf
    refine lv_aload_n hx hb dX5_comesTo_30 rfl (lv_at hl 1 rfl) ?_
    refine va_get (D := (dC, dI)) (ci := 5) (v := .int ((T.1 2))) (C := RX5) (T := TX5) (N := 17) hx hb hts in_X5_comesTo_X5 hown hK hP 0 rfl rfl 2 (by decide) (hts (.fieldLink RX5 49 "BackLoans$Town" "month" "I") (by decide +kernel)) (fun _ h9 => h9) rfl dX5_comesTo_31 ?_
    refine lv_iconst (v := 3) hx hb dX5_comesTo_34 (by decide) ?_
    refine lv_irem hx hb dX5_comesTo_35 (by decide) ?_
    refine lv_if_ne (tgt := 43) hx hb dX5_comesTo_36 (by decide) (fun c2 => ?_) (fun c2 => ?_)
    · replace hf := it_f c2 hf
      exact b_X5_comesTo_43 C G hR hP x1 T _ (lv_sub hl [1, 2] rfl) hf
    · replace hf := it_t c2 hf
      refine lv_iconst (v := 0) hx hb dX5_comesTo_39 (by decide) ?_
      refine lv_goto (tgt := 49) hx hb dX5_comesTo_40 (by decide) ?_
      exact b_X5_comesTo_49 C G hR hP x1 (0 : Int32) T _ (lv_sub hl [1, 2] rfl) hf
def f_X5_comesTo_20 (x1 : Int32) (T : Tw)  : Option Int32 :=
  f_X5_comesTo_25 x1 (1 : Int32) T
set_option maxHeartbeats 4000000 in
set_option maxRecDepth 100000 in
theorem b_X5_comesTo_20 {p : Program} {l : Launch} {e : Env} {s : State} {m : MethodId} {args : Array Value} {below : List Frame} {meth : Method} {c : Code} {Q : State → Prop} {dC : Nat → ClassId} {dI : Nat → Nat → Nat} {cs : Nat → ClassId} {a : Nat → Nat} {res : Int32} (C : CallFix p m c cX5_comesTo 4 s args wsX5_comesTo RX5) (G : GE dC dI cs s) (hR : RPi p l e ({ frames := 0, cells := 0, slots := 0, locals := 0 }) s m args below meth c cX5_comesTo Q res) {T : Tw} (hP : va_P (dC, dI) vwCl (wT cs a T) s.heap) (x1 : Int32) (_ : Tw)   (ls : Array Slot) (hl : lv_has ls 4 [(0, .ref (a 0)), (1, .int (x1))]) (hf : f_X5_comesTo_20 x1 T = some res) : W p l e ({ frames := 0, cells := 0, slots := 0, locals := 0 }) s m args below meth c s.heap [] 0 0 Q (F0 m 20 ls []) := by
  obtain ⟨hx, hb, hml, hown, hts⟩ := id C
  obtain ⟨hK, hN⟩ := id G
  unfold f_X5_comesTo_20 at hf
  refine lv_iconst (v := 1) hx hb dX5_comesTo_20 (by decide) ?_
  refine lv_goto (tgt := 25) hx hb dX5_comesTo_21 (by decide) ?_
  exact b_X5_comesTo_25 C G hR hP x1 (1 : Int32) T _ (lv_sub hl [0, 1] rfl) hf
def f_X5_comesTo (x1 : Int32) (T : Tw) : Option Int32 :=
  gi (x1) 6 <|
  if ((T.2 0) (x1).toNatClampNeg) = (1 : Int32) then (
    f_X5_comesTo_20 x1 T
  ) else (
    gi (x1) 6 <|
    if ((T.2 0) (x1).toNatClampNeg) = (3 : Int32) then (
      f_X5_comesTo_20 x1 T
    ) else (
      f_X5_comesTo_25 x1 (0 : Int32) T
    )
  )
set_option maxHeartbeats 4000000 in
set_option maxRecDepth 100000 in
theorem c_X5_comesTo (l : Launch) (dC : Nat → ClassId) (dI : Nat → Nat → Nat) (cs : Nat → ClassId) (a : Nat → Nat) (T : Tw) (x1 : Int32) (res : Int32) (hf : f_X5_comesTo x1 T = some res) : Met l yX5_comesTo wsX5_comesTo ({ frames := 0, cells := 0, slots := 0, locals := 0 }) (va_Pc [.ref (a 0), .int (x1)] (fun U => va_P (dC, dI) vwCl (wT cs a T) U.heap ∧ GE dC dI cs U)) (vp_Si (fun r => r = res)) 0 0 (fun _ => False) := by
  refine Met.ofW (cc := cX5_comesTo) (maxL := 4) (ret := (some .int)) (by decide) rfl ?_
  intro p e s m args below meth c s₁ B hml hv
  obtain ⟨rfl, hP, G⟩ := hv
  have hts := atoms_spec (ws := wsX5_comesTo) B.pre
  have hown : s.vm.findClass RX5 = some m.cls := findClass_of_methodNamed B.named
  have hlocks := B.notSynchronized
  have hx := B.exec
  have hb := B.bytes
  have hr := B.returns
  have C : CallFix p m c cX5_comesTo 4 s _ wsX5_comesTo RX5 := ⟨hx, hb, hml, hown, hts⟩
  obtain ⟨hK, hN⟩ := id G
  have hR : RPi p l e ({ frames := 0, cells := 0, slots := 0, locals := 0 }) s m ([.ref (a 0), .int (x1)] : List Value).toArray below meth c cX5_comesTo (MQ below (vp_Si (fun r => r = res)) ([.ref (a 0), .int (x1)] : List Value).toArray s 0 0 (fun _ => False)) res := fun pc ls r dd h => W.iret hx hb hr (fun t ht hW => ⟨r, rfl, Option.some.inj h, ht⟩) (fun q hq => by cases hq) dd
  have hl := lv_entry ([.ref (a 0), .int (x1)]) (n := 4) (Nat.le_of_ble_eq_true rfl)
  rw [lg_entry_eq]
  generalize (lg_sl ([.ref (a 0), .int (x1)]) ++ List.replicate (4 - (lg_sl ([.ref (a 0), .int (x1)])).length) Slot.unset).toArray = ls at hl ⊢
  have hl : lv_has ls 4 [(0, .ref (a 0)), (1, .int (x1))] := hl
  unfold f_X5_comesTo at hf
  refine lv_aload_n hx hb dX5_comesTo_0 rfl (lv_at hl 0 rfl) ?_
  refine va_get (D := (dC, dI)) (ci := 5) (v := .ref (a 1)) (C := RX5) (T := TX5) (N := 17) hx hb hts in_X5_comesTo_X5 hown hK hP 0 rfl rfl 7 (by decide) (hts (.fieldLink RX5 9 "BackLoans$Town" "kind" "[I") (by decide +kernel)) (fun _ h9 => h9) rfl dX5_comesTo_1 ?_
  refine lv_iload_n hx hb dX5_comesTo_4 rfl (lv_at hl 1 rfl) ?_
  obtain ⟨hi1, hf⟩ := gi_e hf
  refine va_iald hx hb hK hP 1 0 rfl rfl hi1 dX5_comesTo_5 ?_
  refine lv_iconst (v := 1) hx hb dX5_comesTo_6 (by decide) ?_
  refine lv_icmp_eq (tgt := 20) hx hb dX5_comesTo_7 (by decide) (fun c2 => ?_) (fun c2 => ?_)
  · replace hf := it_t c2 hf
    exact b_X5_comesTo_20 C G hR hP x1 T _ (lv_sub hl [0, 1] rfl) hf
  · replace hf := it_f c2 hf
    refine lv_aload_n hx hb dX5_comesTo_10 rfl (lv_at hl 0 rfl) ?_
    refine va_get (D := (dC, dI)) (ci := 5) (v := .ref (a 1)) (C := RX5) (T := TX5) (N := 17) hx hb hts in_X5_comesTo_X5 hown hK hP 0 rfl rfl 7 (by decide) (hts (.fieldLink RX5 9 "BackLoans$Town" "kind" "[I") (by decide +kernel)) (fun _ h9 => h9) rfl dX5_comesTo_11 ?_
    refine lv_iload_n hx hb dX5_comesTo_14 rfl (lv_at hl 1 rfl) ?_
    obtain ⟨hi3, hf⟩ := gi_e hf
    refine va_iald hx hb hK hP 1 0 rfl rfl hi3 dX5_comesTo_15 ?_
    refine lv_iconst (v := 3) hx hb dX5_comesTo_16 (by decide) ?_
    refine lv_icmp_ne (tgt := 24) hx hb dX5_comesTo_17 (by decide) (fun c4 => ?_) (fun c4 => ?_)
    · replace hf := it_f c4 hf
      refine lv_iconst (v := 0) hx hb dX5_comesTo_24 (by decide) ?_
      exact b_X5_comesTo_25 C G hR hP x1 (0 : Int32) T _ (lv_sub hl [0, 1] rfl) hf
    · replace hf := it_t c4 hf
      exact b_X5_comesTo_20 C G hR hP x1 T _ (lv_sub hl [0, 1] rfl) hf

theorem in_X5_takeMeans_X5 : ∀ w ∈ wsX50, w ∈ wsX5_takeMeans := by decide +kernel
def f_X5_takeMeans (x1 : Int32) (T : Tw) : Option Tw :=
  gi (x1) 6 <|
  bn (f_X5_comesTo x1 T) fun r16 =>
  gi (x1) 6 <|
  lett ((T.1, va_up T.2 2 (upd (T.2 2) (x1).toNatClampNeg ((if (((T.2 2) (x1).toNatClampNeg) + r16) < (9999 : Int32) then (((T.2 2) (x1).toNatClampNeg) + r16) else (9999 : Int32)))))) fun T_23 =>
  some T_23
set_option maxHeartbeats 4000000 in
set_option maxRecDepth 100000 in
theorem c_X5_takeMeans (l : Launch) (dC : Nat → ClassId) (dI : Nat → Nat → Nat) (cs : Nat → ClassId) (a : Nat → Nat) (sz : Nat) (T : Tw) (x1 : Int32) (res : Tw) (hf : f_X5_takeMeans x1 T = some res) : Met l yX5_takeMeans wsX5_takeMeans ({ frames := 1, cells := 0, slots := 0, locals := 23 }) (va_Pc [.ref (a 0), .int (x1)] (fun U => U.heap.size = sz ∧ va_P (dC, dI) vwCl (wT cs a T) U.heap ∧ GE dC dI cs U ∧ va_D (fun _ => True) (wT cs a T))) (va_Qv (fun u : Tw => u = res) (fun u t => va_P (dC, dI) vwCl ((fun u : Tw => (wT cs a u)) u) t.heap ∧ va_D (va_A (wT cs a T) sz) ((fun u : Tw => (wT cs a u)) u)) (va_A (wT cs a T) sz)) 0 0 (va_A (wT cs a T) sz) := by
  refine Met.ofW (cc := cX5_takeMeans) (maxL := 2) (ret := none) (by decide) rfl ?_
  intro p e s m args below meth c s₁ B hml hv
  obtain ⟨rfl, hsz, hP, G, hD0⟩ := hv
  have hts := atoms_spec (ws := wsX5_takeMeans) B.pre
  have hown : s.vm.findClass RX5 = some m.cls := findClass_of_methodNamed B.named
  have hlocks := B.notSynchronized
  have hx := B.exec
  have hb := B.bytes
  have hr := B.returns
  have C : CallFix p m c cX5_takeMeans 2 s _ wsX5_takeMeans RX5 := ⟨hx, hb, hml, hown, hts⟩
  obtain ⟨hK, hN⟩ := id G
  subst hsz
  have hD := hD0.self (sz := s.heap.size)
  generalize hAe : va_A (wT cs a T) s.heap.size = A at hD ⊢
  have hA : ∀ q : Nat, s.heap.size ≤ q → A q := fun q h => by rw [← hAe]; exact Or.inr h
  have hS : va_S A s.heap s.heap [] := va_S.rf
  have hR : RTv p l e ({ frames := 1, cells := 0, slots := 0, locals := 23 }) s m ([.ref (a 0), .int (x1)] : List Value).toArray below meth c cX5_takeMeans (MQ below (va_Qv (fun u : Tw => u = res) (fun u t => va_P (dC, dI) vwCl ((fun u : Tw => (wT cs a u)) u) t.heap ∧ va_D A ((fun u : Tw => (wT cs a u)) u)) A) ([.ref (a 0), .int (x1)] : List Value).toArray s 0 0 A) (dC, dI) A (fun u : Tw => (wT cs a u)) res := fun H locs pc ls u dd h hP hD hS => W.vret hx hb hr (fun t ht hW => ⟨⟨u, rfl, by cases h; rfl, by rw [ht]; exact hP, hD⟩, hS.F ht⟩) hS.2.2 dd
  have hl := lv_entry ([.ref (a 0), .int (x1)]) (n := 2) (Nat.le_of_ble_eq_true rfl)
  rw [lg_entry_eq]
  generalize (lg_sl ([.ref (a 0), .int (x1)]) ++ List.replicate (2 - (lg_sl ([.ref (a 0), .int (x1)])).length) Slot.unset).toArray = ls at hl ⊢
  have hl : lv_has ls 2 [(0, .ref (a 0)), (1, .int (x1))] := hl
  unfold f_X5_takeMeans at hf
  refine lv_aload_n hx hb dX5_takeMeans_0 rfl (lv_at hl 0 rfl) ?_
  refine va_get (D := (dC, dI)) (ci := 5) (v := .ref (a 3)) (C := RX5) (T := TX5) (N := 17) hx hb hts in_X5_takeMeans_X5 hown hK hP 0 rfl rfl 9 (by decide) (hts (.fieldLink RX5 18 "BackLoans$Town" "purse" "[I") (by decide +kernel)) (fun _ h9 => h9) rfl dX5_takeMeans_1 ?_
  refine lv_iload_n hx hb dX5_takeMeans_4 rfl (lv_at hl 1 rfl) ?_
  refine lv_sipush (v := 9999) hx hb dX5_takeMeans_5 (by decide) ?_
  refine lv_aload_n hx hb dX5_takeMeans_8 rfl (lv_at hl 0 rfl) ?_
  refine va_get (D := (dC, dI)) (ci := 5) (v := .ref (a 3)) (C := RX5) (T := TX5) (N := 17) hx hb hts in_X5_takeMeans_X5 hown hK hP 0 rfl rfl 9 (by decide) (hts (.fieldLink RX5 18 "BackLoans$Town" "purse" "[I") (by decide +kernel)) (fun _ h9 => h9) rfl dX5_takeMeans_9 ?_
  refine lv_iload_n hx hb dX5_takeMeans_12 rfl (lv_at hl 1 rfl) ?_
  obtain ⟨hi1, hf⟩ := gi_e hf
  refine va_iald hx hb hK hP 3 0 rfl rfl hi1 dX5_takeMeans_13 ?_
  refine lv_aload_n hx hb dX5_takeMeans_14 rfl (lv_at hl 0 rfl) ?_
  refine lv_iload_n hx hb dX5_takeMeans_15 rfl (lv_at hl 1 rfl) ?_
  obtain ⟨r16, hr16, hf⟩ := bn_e hf
  have hPc := hP.sub (ws' := (wT cs a T)) [0, 1, 2, 3, 4, 5, 6, 7, 8, 9, 10] rfl
  refine vp_callSi (W.runV (As := [.int (x1)]) (rest := [.int (((T.2 2) (x1).toNatClampNeg)), .int ((9999 : Int32)), .int (x1), .ref (a 3)]) C (c_X5_comesTo l dC dI cs a T x1 r16 hr16) (cwV 1 hts gX5_takeMeans_X5_comesTo rfl rfl rfl (by decide +kernel) ⟨Nat.le_of_ble_eq_true rfl, Nat.le_of_ble_eq_true rfl⟩) ⟨(fun a U g mk q => ⟨q.1, q.2.1, GE.calling q.2.2⟩), va_recv hK hPc (ci := 5) (q0 := 0) rfl rfl, (fun U hU hW => ⟨rfl, by rw [hU]; exact hPc, GE.warm hW G⟩)⟩ rfl rfl hl.1 rfl (lv_room (Nat.le_of_ble_eq_true rfl)) dX5_takeMeans_16 ⟨Nat.le_of_ble_eq_true rfl, Nat.le_of_ble_eq_true rfl⟩) (fun qr16 hqr16 => ?_)
  obtain rfl := hqr16.symm
  refine lv_iadd hx hb dX5_takeMeans_19 ?_
  refine va_mmin hx hb (hml.trans hl.1.symm) hown (hts (.methodLink RX5 95 Lib.Math.min.name) (by decide +kernel)) (hts (.static Lib.Math.min.name) (by decide +kernel)) (hts (.initialized "java/lang/Math") (by decide +kernel)) (hts (.code Lib.Math.min.name Lib.Math.min.code 2 (some .int)) (by decide +kernel)) (Nat.le_of_ble_eq_true rfl) (Nat.le_of_ble_eq_true rfl) (Nat.le_of_ble_eq_true rfl) (Nat.le_of_ble_eq_true rfl) dX5_takeMeans_20 ?_
  obtain ⟨hi2, hf⟩ := gi_e hf
  refine va_iast hx hb hK hP hD hS 3 0 rfl rfl hi2 dX5_takeMeans_23 (fun H locs hP hD hS => ?_)
  obtain ⟨T_23, hP, hD, hf⟩ := st_nm (ws := fun T_23 : Tw => (wT cs a T_23)) ((T.1, va_up T.2 2 (upd (T.2 2) (x1).toNatClampNeg ((if (((T.2 2) (x1).toNatClampNeg) + r16) < (9999 : Int32) then (((T.2 2) (x1).toNatClampNeg) + r16) else (9999 : Int32)))))) hP hD hf
  exact hR _ _ _ _ _ dX5_takeMeans_24 hf hP hD hS

theorem in_X5_liveMonth_X5 : ∀ w ∈ wsX50, w ∈ wsX5_liveMonth := by decide +kernel
def f_X5_liveMonth_23 (x1 : Int32) (x2 : Int32) (T : Tw) (K2 : Int32 → Tw → Option Tw) : Option Tw :=
  bn (f_X5_spendHalf x2 T) fun r25 =>
  lett (x2 + 1) fun x2_28 =>
  K2 x2_28 r25
set_option maxHeartbeats 4000000 in
set_option maxRecDepth 100000 in
theorem b_X5_liveMonth_23 {p : Program} {l : Launch} {e : Env} {s : State} {m : MethodId} {args : Array Value} {below : List Frame} {meth : Method} {c : Code} {Q : State → Prop} {dC : Nat → ClassId} {dI : Nat → Nat → Nat} {cs : Nat → ClassId} {A : Nat → Prop} {a : Nat → Nat} {res : Tw} (C : CallFix p m c cX5_liveMonth 3 s args wsX5_liveMonth RX5) (G : GE dC dI cs s) (hA : ∀ q : Nat, s.heap.size ≤ q → A q) (hR : RTv p l e ({ frames := 3, cells := 0, slots := 0, locals := 66 }) s m args below meth c cX5_liveMonth Q (dC, dI) A (fun u : Tw => (wT cs a u)) res) (x1 : Int32) (x2 : Int32) (T : Tw) {K2 : Int32 → Tw → Option Tw} (hK2 : ∀ (x2 : Int32) (T : Tw) (H : Heap) (locs : List Loc) (ls : Array Slot), lv_has ls 3 [(0, .ref (a 0)), (1, .int (x1)), (2, .int (x2))] → va_P (dC, dI) vwCl (wT cs a T) H → va_D A (wT cs a T) → va_S A s.heap H locs → K2 x2 T = some res → W p l e ({ frames := 3, cells := 0, slots := 0, locals := 66 }) s m args below meth c H locs 0 0 Q (F0 m 2 ls [])) (H : Heap) (locs : List Loc) (ls : Array Slot) (hl : lv_has ls 3 [(0, .ref (a 0)), (1, .int (x1)), (2, .int (x2))]) (hP : va_P (dC, dI) vwCl (wT cs a T) H) (hD : va_D A (wT cs a T)) (hS : va_S A s.heap H locs) (hf : f_X5_liveMonth_23 x1 x2 T K2 = some res) : W p l e ({ frames := 3, cells := 0, slots := 0, locals := 66 }) s m args below meth c H locs 0 0 Q (F0 m 23 ls []) := by
  obtain ⟨hx, hb, hml, hown, hts⟩ := id C
  obtain ⟨hK, hN⟩ := id G
  unfold f_X5_liveMonth_23 at hf
  refine lv_aload_n hx hb dX5_liveMonth_23 rfl (lv_at hl 0 rfl) ?_
  refine lv_iload_n hx hb dX5_liveMonth_24 rfl (lv_at hl 2 rfl) ?_
  obtain ⟨r25, hr25, hf⟩ := bn_e hf
  have hPc := hP.sub (ws' := (wT cs a T)) [0, 1, 2, 3, 4, 5, 6, 7, 8, 9, 10] rfl
  have hDc := hD.sub (ws' := (wT cs a T)) [0, 1, 2, 3, 4, 5, 6, 7, 8, 9, 10] (by decide) rfl
  have hFc := va_free (wc := (wT cs a T)) hD hS hA [0, 1, 2, 3, 4, 5, 6, 7, 8, 9, 10] rfl
  refine va_callv (va_runV (As := [.int (x2)]) (rest := []) C (c_X5_spendHalf l dC dI cs a H.size T x2 r25 hr25) (cwV 1 hts gX5_liveMonth_X5_spendHalf rfl rfl rfl (by decide +kernel) ⟨Nat.le_of_ble_eq_true rfl, Nat.le_of_ble_eq_true rfl⟩) ⟨(fun a U g mk q => ⟨q.1, q.2.1, q.2.2.1, GE.calling q.2.2.2.1, q.2.2.2.2⟩), va_recv hK hPc (ci := 5) (q0 := 0) rfl rfl, (fun U hU hW => ⟨rfl, by rw [hU], by rw [hU]; exact hPc, GE.warm hW G, hDc.weaken (fun _ _ _ _ => trivial)⟩)⟩ rfl rfl hl.1 rfl (lv_room (Nat.le_of_ble_eq_true rfl)) dX5_liveMonth_25 ⟨Nat.le_of_ble_eq_true rfl, Nat.le_of_ble_eq_true rfl⟩) hS (fun q _ h => hFc q h) hFc (fun u t H1 locs ht hvm hw hB hz1 hk1 hS => ?_)
  obtain rfl := hw.symm
  obtain ⟨hP1, hD1⟩ := hB
  rw [ht] at hP1
  obtain ⟨hP, hD⟩ := va_join (wr := []) (w1 := (wT cs a r25)) hP hD [0, 1, 2, 3, 4, 5, 6, 7, 8, 9, 10] [] rfl rfl (by decide) (by decide) hk1 hFc hP1 hD1
  generalize H1 = H at hP hS ⊢
  have hP := hP.sub (ws' := (wT cs a r25)) [0, 1, 2, 3, 4, 5, 6, 7, 8, 9, 10] rfl
  have hD := hD.sub (ws' := (wT cs a r25)) [0, 1, 2, 3, 4, 5, 6, 7, 8, 9, 10] (by decide) rfl
  obtain ⟨x2_28, ex2_28⟩ : ∃ y : Int32, y = (x2 + 1) := ⟨_, rfl⟩
  replace hf := lett_s ex2_28 hf
  refine lv_iinc (v := x2_28) (lv' := [(2, .int (x2_28)), (0, .ref (a 0)), (1, .int (x1))]) hx hb dX5_liveMonth_28 hl (k := 2) rfl (by rw [ex2_28]; rfl) (by decide) rfl (fun ls hl => ?_)
  refine lv_goto (tgt := 2) hx hb dX5_liveMonth_31 (by decide) ?_
  exact hK2 x2_28 r25 _ _ _ (lv_sub hl [1, 2, 0] rfl) hP hD hS hf
def f_X5_liveMonth_2 (x1 : Int32) (x2 : Int32) (T : Tw) (K2 : Int32 → Tw → Option Tw) (K34 : Tw → Option Tw) : Option Tw :=
  if (T.1 4) ≤ x2 then (
    K34 T
  ) else (
    bn (f_X7_hasBit x1 x2) fun r12 =>
    if r12 = 0 then (
      bn (f_X5_takeMeans x2 T) fun r20 =>
      f_X5_liveMonth_23 x1 x2 r20 K2
    ) else (
      f_X5_liveMonth_23 x1 x2 T K2
    )
  )
set_option maxHeartbeats 4000000 in
set_option maxRecDepth 100000 in
theorem b_X5_liveMonth_2 {p : Program} {l : Launch} {e : Env} {s : State} {m : MethodId} {args : Array Value} {below : List Frame} {meth : Method} {c : Code} {Q : State → Prop} {dC : Nat → ClassId} {dI : Nat → Nat → Nat} {cs : Nat → ClassId} {A : Nat → Prop} {a : Nat → Nat} {res : Tw} (C : CallFix p m c cX5_liveMonth 3 s args wsX5_liveMonth RX5) (G : GE dC dI cs s) (hA : ∀ q : Nat, s.heap.size ≤ q → A q) (hR : RTv p l e ({ frames := 3, cells := 0, slots := 0, locals := 66 }) s m args below meth c cX5_liveMonth Q (dC, dI) A (fun u : Tw => (wT cs a u)) res) (x1 : Int32) (x2 : Int32) (T : Tw) {K2 : Int32 → Tw → Option Tw} {K34 : Tw → Option Tw} (hK2 : ∀ (x2 : Int32) (T : Tw) (H : Heap) (locs : List Loc) (ls : Array Slot), lv_has ls 3 [(0, .ref (a 0)), (1, .int (x1)), (2, .int (x2))] → va_P (dC, dI) vwCl (wT cs a T) H → va_D A (wT cs a T) → va_S A s.heap H locs → K2 x2 T = some res → W p l e ({ frames := 3, cells := 0, slots := 0, locals := 66 }) s m args below meth c H locs 0 0 Q (F0 m 2 ls [])) (hK34 : ∀ (T : Tw) (H : Heap) (locs : List Loc) (ls : Array Slot), lv_has ls 3 [(0, .ref (a 0))] → va_P (dC, dI) vwCl (wT cs a T) H → va_D A (wT cs a T) → va_S A s.heap H locs → K34 T = some res → W p l e ({ frames := 3, cells := 0, slots := 0, locals := 66 }) s m args below meth c H locs 0 0 Q (F0 m 34 ls [])) (H : Heap) (locs : List Loc) (ls : Array Slot) (hl : lv_has ls 3 [(0, .ref (a 0)), (1, .int (x1)), (2, .int (x2))]) (hP : va_P (dC, dI) vwCl (wT cs a T) H) (hD : va_D A (wT cs a T)) (hS : va_S A s.heap H locs) (hf : f_X5_liveMonth_2 x1 x2 T K2 K34 = some res) : W p l e ({ frames := 3, cells := 0, slots := 0, locals := 66 }) s m args below meth c H locs 0 0 Q (F0 m 2 ls []) := by
  obtain ⟨hx, hb, hml, hown, hts⟩ := id C
  obtain ⟨hK, hN⟩ := id G
  unfold f_X5_liveMonth_2 at hf
  refine lv_iload_n hx hb dX5_liveMonth_2 rfl (lv_at hl 2 rfl) ?_
  refine lv_aload_n hx hb dX5_liveMonth_3 rfl (lv_at hl 0 rfl) ?_
  refine va_get (D := (dC, dI)) (ci := 5) (v := .int ((T.1 4))) (C := RX5) (T := TX5) (N := 17) hx hb hts in_X5_liveMonth_X5 hown hK hP 0 rfl rfl 4 (by decide) (hts (.fieldLink RX5 55 "BackLoans$Town" "people" "I") (by decide +kernel)) (fun _ h9 => h9) rfl dX5_liveMonth_4 ?_
  refine lv_icmp_ge (tgt := 34) hx hb dX5_liveMonth_7 (by decide) (fun c1 => ?_) (fun c1 => ?_)
  · replace hf := it_t c1 hf
    exact hK34 T _ _ _ (lv_sub hl [0] rfl) hP hD hS hf
  · replace hf := it_f c1 hf
    refine lv_iload_n hx hb dX5_liveMonth_10 rfl (lv_at hl 1 rfl) ?_
    refine lv_iload_n hx hb dX5_liveMonth_11 rfl (lv_at hl 2 rfl) ?_
    obtain ⟨r12, hr12, hf⟩ := bn_e hf
    have hPc := hP.sub (ws' := ([] : va_W)) [] rfl
    refine vp_callSi (va_Run.run (va_runSN (As := [.int (x1), .int (x2)]) (rest := []) C (c_X7_hasBit l dC dI cs x1 x2 r12 hr12) ⟨va_cnB 2 hts gX5_liveMonth_X7_hasBit_n74 rfl rfl rfl (hN (RX5, 74, yX7_hasBit, RX7) (by decide +kernel)) (hts (.initialized RX7) (by decide +kernel)) (by decide +kernel) ⟨Nat.le_of_ble_eq_true rfl, Nat.le_of_ble_eq_true rfl⟩, (hts (.static yX7_hasBit) (by decide +kernel)), trivial⟩ ⟨(fun a U g mk q => ⟨q.1, q.2.1, GE.calling q.2.2⟩), (fun U hU hW => ⟨rfl, by rw [hU]; exact hPc, GE.warm hW G⟩)⟩ rfl rfl hl.1 rfl (lv_room (Nat.le_of_ble_eq_true rfl)) dX5_liveMonth_12 ⟨Nat.le_of_ble_eq_true rfl, Nat.le_of_ble_eq_true rfl⟩)) (fun qr12 hqr12 => ?_)
    obtain ⟨hqr12, hnr12⟩ := hqr12
    obtain rfl := hqr12.symm
    refine lv_if_ne (tgt := 23) hx hb dX5_liveMonth_15 (by decide) (fun c2 => ?_) (fun c2 => ?_)
    · replace hf := it_f c2 hf
      exact b_X5_liveMonth_23 C G hA hR x1 x2 T hK2 _ _ _ (lv_sub hl [0, 1, 2] rfl) hP hD hS hf
    · replace hf := it_t c2 hf
      refine lv_aload_n hx hb dX5_liveMonth_18 rfl (lv_at hl 0 rfl) ?_
      refine lv_iload_n hx hb dX5_liveMonth_19 rfl (lv_at hl 2 rfl) ?_
      obtain ⟨r20, hr20, hf⟩ := bn_e hf
      have hPc := hP.sub (ws' := (wT cs a T)) [0, 1, 2, 3, 4, 5, 6, 7, 8, 9, 10] rfl
      have hDc := hD.sub (ws' := (wT cs a T)) [0, 1, 2, 3, 4, 5, 6, 7, 8, 9, 10] (by decide) rfl
      have hFc := va_free (wc := (wT cs a T)) hD hS hA [0, 1, 2, 3, 4, 5, 6, 7, 8, 9, 10] rfl
      refine va_callv (va_runV (As := [.int (x2)]) (rest := []) C (c_X5_takeMeans l dC dI cs a H.size T x2 r20 hr20) (cwV 1 hts gX5_liveMonth_X5_takeMeans rfl rfl rfl (by decide +kernel) ⟨Nat.le_of_ble_eq_true rfl, Nat.le_of_ble_eq_true rfl⟩) ⟨(fun a U g mk q => ⟨q.1, q.2.1, q.2.2.1, GE.calling q.2.2.2.1, q.2.2.2.2⟩), va_recv hK hPc (ci := 5) (q0 := 0) rfl rfl, (fun U hU hW => ⟨rfl, by rw [hU], by rw [hU]; exact hPc, GE.warm hW G, hDc.weaken (fun _ _ _ _ => trivial)⟩)⟩ rfl rfl hl.1 rfl (lv_room (Nat.le_of_ble_eq_true rfl)) dX5_liveMonth_20 ⟨Nat.le_of_ble_eq_true rfl, Nat.le_of_ble_eq_true rfl⟩) hS (fun q _ h => hFc q h) hFc (fun u t H1 locs ht hvm hw hB hz1 hk1 hS => ?_)
      obtain rfl := hw.symm
      obtain ⟨hP1, hD1⟩ := hB
      rw [ht] at hP1
      obtain ⟨hP, hD⟩ := va_join (wr := []) (w1 := (wT cs a r20)) hP hD [0, 1, 2, 3, 4, 5, 6, 7, 8, 9, 10] [] rfl rfl (by decide) (by decide) hk1 hFc hP1 hD1
      generalize H1 = H at hP hS ⊢
      have hP := hP.sub (ws' := (wT cs a r20)) [0, 1, 2, 3, 4, 5, 6, 7, 8, 9, 10] rfl
      have hD := hD.sub (ws' := (wT cs a r20)) [0, 1, 2, 3, 4, 5, 6, 7, 8, 9, 10] (by decide) rfl
      exact b_X5_liveMonth_23 C G hA hR x1 x2 r20 hK2 _ _ _ (lv_sub hl [0, 1, 2] rfl) hP hD hS hf
def l_X5_liveMonth_2 (x1 : Int32) (K34 : Tw → Option Tw) (n : Nat) (x2 : Int32) (T : Tw) : Option Tw := itr (fun (k : Int32 × Tw → Option Tw) (z : Int32 × Tw) => f_X5_liveMonth_2 x1 z.1 z.2 (fun x2 T => k (x2, T)) K34) n (x2, T)
set_option maxHeartbeats 4000000 in
set_option maxRecDepth 100000 in
theorem w_X5_liveMonth_2 {p : Program} {l : Launch} {e : Env} {s : State} {m : MethodId} {args : Array Value} {below : List Frame} {meth : Method} {c : Code} {Q : State → Prop} {dC : Nat → ClassId} {dI : Nat → Nat → Nat} {cs : Nat → ClassId} {A : Nat → Prop} {a : Nat → Nat} {res : Tw} (C : CallFix p m c cX5_liveMonth 3 s args wsX5_liveMonth RX5) (G : GE dC dI cs s) (hA : ∀ q : Nat, s.heap.size ≤ q → A q) (hR : RTv p l e ({ frames := 3, cells := 0, slots := 0, locals := 66 }) s m args below meth c cX5_liveMonth Q (dC, dI) A (fun u : Tw => (wT cs a u)) res) (x1 : Int32) {K34 : Tw → Option Tw} (hK34 : ∀ (T : Tw) (H : Heap) (locs : List Loc) (ls : Array Slot), lv_has ls 3 [(0, .ref (a 0))] → va_P (dC, dI) vwCl (wT cs a T) H → va_D A (wT cs a T) → va_S A s.heap H locs → K34 T = some res → W p l e ({ frames := 3, cells := 0, slots := 0, locals := 66 }) s m args below meth c H locs 0 0 Q (F0 m 34 ls [])) : ∀ (n : Nat) (x2 : Int32) (T : Tw) (H : Heap) (locs : List Loc) (ls : Array Slot), lv_has ls 3 [(0, .ref (a 0)), (1, .int (x1)), (2, .int (x2))] → va_P (dC, dI) vwCl (wT cs a T) H → va_D A (wT cs a T) → va_S A s.heap H locs → l_X5_liveMonth_2 x1 K34 n x2 T = some res → W p l e ({ frames := 3, cells := 0, slots := 0, locals := 66 }) s m args below meth c H locs 0 0 Q (F0 m 2 ls []) := by
  intro n
  induction n with
  | zero => intro x2 T H locs ls hl hP hD hS hf; exact absurd hf (by simp [l_X5_liveMonth_2, itr])
  | succ n ih => intro x2 T H locs ls hl hP hD hS hf; exact b_X5_liveMonth_2 C G hA hR x1 x2 T (K2 := fun x2 T => l_X5_liveMonth_2 x1 K34 n x2 T) (fun x2 T H locs ls hl hP hD hS hf => ih x2 T H locs ls hl hP hD hS hf) hK34 H locs ls hl hP hD hS hf
def f_X5_liveMonth_58 (x2 : Int32) (T : Tw) (K36 : Int32 → Tw → Option Tw) : Option Tw :=
  lett (x2 + 1) fun x2_58 =>
  K36 x2_58 T
set_option maxHeartbeats 4000000 in
set_option maxRecDepth 100000 in
theorem b_X5_liveMonth_58 {p : Program} {l : Launch} {e : Env} {s : State} {m : MethodId} {args : Array Value} {below : List Frame} {meth : Method} {c : Code} {Q : State → Prop} {dC : Nat → ClassId} {dI : Nat → Nat → Nat} {cs : Nat → ClassId} {A : Nat → Prop} {a : Nat → Nat} {res : Tw} (C : CallFix p m c cX5_liveMonth 3 s args wsX5_liveMonth RX5) (G : GE dC dI cs s) (hA : ∀ q : Nat, s.heap.size ≤ q → A q) (hR : RTv p l e ({ frames := 3, cells := 0, slots := 0, locals := 66 }) s m args below meth c cX5_liveMonth Q (dC, dI) A (fun u : Tw => (wT cs a u)) res) (x2 : Int32) (T : Tw) {K36 : Int32 → Tw → Option Tw} (hK36 : ∀ (x2 : Int32) (T : Tw) (H : Heap) (locs : List Loc) (ls : Array Slot), lv_has ls 3 [(0, .ref (a 0)), (2, .int (x2))] → va_P (dC, dI) vwCl (wT cs a T) H → va_D A (wT cs a T) → va_S A s.heap H locs → K36 x2 T = some res → W p l e ({ frames := 3, cells := 0, slots := 0, locals := 66 }) s m args below meth c H locs 0 0 Q (F0 m 36 ls [])) (H : Heap) (locs : List Loc) (ls : Array Slot) (hl : lv_has ls 3 [(0, .ref (a 0)), (2, .int (x2))]) (hP : va_P (dC, dI) vwCl (wT cs a T) H) (hD : va_D A (wT cs a T)) (hS : va_S A s.heap H locs) (hf : f_X5_liveMonth_58 x2 T K36 = some res) : W p l e ({ frames := 3, cells := 0, slots := 0, locals := 66 }) s m args below meth c H locs 0 0 Q (F0 m 58 ls []) := by
  obtain ⟨hx, hb, hml, hown, hts⟩ := id C
  obtain ⟨hK, hN⟩ := id G
  unfold f_X5_liveMonth_58 at hf
  obtain ⟨x2_58, ex2_58⟩ : ∃ y : Int32, y = (x2 + 1) := ⟨_, rfl⟩
  replace hf := lett_s ex2_58 hf
  refine lv_iinc (v := x2_58) (lv' := [(2, .int (x2_58)), (0, .ref (a 0))]) hx hb dX5_liveMonth_58 hl (k := 1) rfl (by rw [ex2_58]; rfl) (by decide) rfl (fun ls hl => ?_)
  refine lv_goto (tgt := 36) hx hb dX5_liveMonth_61 (by decide) ?_
  exact hK36 x2_58 T _ _ _ (lv_sub hl [1, 0] rfl) hP hD hS hf
def f_X5_liveMonth_36 (x2 : Int32) (T : Tw) (K36 : Int32 → Tw → Option Tw) (K64 : Tw → Option Tw) : Option Tw :=
  if (T.1 5) ≤ x2 then (
    K64 T
  ) else (
    gi (x2) 8 <|
    if ((T.2 6) (x2).toNatClampNeg) = 0 then (
      bn (f_X5_giveOrStop x2 T) fun r55 =>
      f_X5_liveMonth_58 x2 r55 K36
    ) else (
      f_X5_liveMonth_58 x2 T K36
    )
  )
set_option maxHeartbeats 4000000 in
set_option maxRecDepth 100000 in
theorem b_X5_liveMonth_36 {p : Program} {l : Launch} {e : Env} {s : State} {m : MethodId} {args : Array Value} {below : List Frame} {meth : Method} {c : Code} {Q : State → Prop} {dC : Nat → ClassId} {dI : Nat → Nat → Nat} {cs : Nat → ClassId} {A : Nat → Prop} {a : Nat → Nat} {res : Tw} (C : CallFix p m c cX5_liveMonth 3 s args wsX5_liveMonth RX5) (G : GE dC dI cs s) (hA : ∀ q : Nat, s.heap.size ≤ q → A q) (hR : RTv p l e ({ frames := 3, cells := 0, slots := 0, locals := 66 }) s m args below meth c cX5_liveMonth Q (dC, dI) A (fun u : Tw => (wT cs a u)) res) (x2 : Int32) (T : Tw) {K36 : Int32 → Tw → Option Tw} {K64 : Tw → Option Tw} (hK36 : ∀ (x2 : Int32) (T : Tw) (H : Heap) (locs : List Loc) (ls : Array Slot), lv_has ls 3 [(0, .ref (a 0)), (2, .int (x2))] → va_P (dC, dI) vwCl (wT cs a T) H → va_D A (wT cs a T) → va_S A s.heap H locs → K36 x2 T = some res → W p l e ({ frames := 3, cells := 0, slots := 0, locals := 66 }) s m args below meth c H locs 0 0 Q (F0 m 36 ls [])) (hK64 : ∀ (T : Tw) (H : Heap) (locs : List Loc) (ls : Array Slot), lv_has ls 3 [(0, .ref (a 0))] → va_P (dC, dI) vwCl (wT cs a T) H → va_D A (wT cs a T) → va_S A s.heap H locs → K64 T = some res → W p l e ({ frames := 3, cells := 0, slots := 0, locals := 66 }) s m args below meth c H locs 0 0 Q (F0 m 64 ls [])) (H : Heap) (locs : List Loc) (ls : Array Slot) (hl : lv_has ls 3 [(0, .ref (a 0)), (2, .int (x2))]) (hP : va_P (dC, dI) vwCl (wT cs a T) H) (hD : va_D A (wT cs a T)) (hS : va_S A s.heap H locs) (hf : f_X5_liveMonth_36 x2 T K36 K64 = some res) : W p l e ({ frames := 3, cells := 0, slots := 0, locals := 66 }) s m args below meth c H locs 0 0 Q (F0 m 36 ls []) := by
  obtain ⟨hx, hb, hml, hown, hts⟩ := id C
  obtain ⟨hK, hN⟩ := id G
  unfold f_X5_liveMonth_36 at hf
  refine lv_iload_n hx hb dX5_liveMonth_36 rfl (lv_at hl 1 rfl) ?_
  refine lv_aload_n hx hb dX5_liveMonth_37 rfl (lv_at hl 0 rfl) ?_
  refine va_get (D := (dC, dI)) (ci := 5) (v := .int ((T.1 5))) (C := RX5) (T := TX5) (N := 17) hx hb hts in_X5_liveMonth_X5 hown hK hP 0 rfl rfl 5 (by decide) (hts (.fieldLink RX5 58 "BackLoans$Town" "loans" "I") (by decide +kernel)) (fun _ h9 => h9) rfl dX5_liveMonth_38 ?_
  refine lv_icmp_ge (tgt := 64) hx hb dX5_liveMonth_41 (by decide) (fun c1 => ?_) (fun c1 => ?_)
  · replace hf := it_t c1 hf
    exact hK64 T _ _ _ (lv_sub hl [0] rfl) hP hD hS hf
  · replace hf := it_f c1 hf
    refine lv_aload_n hx hb dX5_liveMonth_44 rfl (lv_at hl 0 rfl) ?_
    refine va_get (D := (dC, dI)) (ci := 5) (v := .ref (a 7)) (C := RX5) (T := TX5) (N := 17) hx hb hts in_X5_liveMonth_X5 hown hK hP 0 rfl rfl 13 (by decide) (hts (.fieldLink RX5 30 "BackLoans$Town" "state" "[I") (by decide +kernel)) (fun _ h9 => h9) rfl dX5_liveMonth_45 ?_
    refine lv_iload_n hx hb dX5_liveMonth_48 rfl (lv_at hl 1 rfl) ?_
    obtain ⟨hi2, hf⟩ := gi_e hf
    refine va_iald hx hb hK hP 7 0 rfl rfl hi2 dX5_liveMonth_49 ?_
    refine lv_if_ne (tgt := 58) hx hb dX5_liveMonth_50 (by decide) (fun c3 => ?_) (fun c3 => ?_)
    · replace hf := it_f c3 hf
      exact b_X5_liveMonth_58 C G hA hR x2 T hK36 _ _ _ (lv_sub hl [0, 1] rfl) hP hD hS hf
    · replace hf := it_t c3 hf
      refine lv_aload_n hx hb dX5_liveMonth_53 rfl (lv_at hl 0 rfl) ?_
      refine lv_iload_n hx hb dX5_liveMonth_54 rfl (lv_at hl 1 rfl) ?_
      obtain ⟨r55, hr55, hf⟩ := bn_e hf
      have hPc := hP.sub (ws' := (wT cs a T)) [0, 1, 2, 3, 4, 5, 6, 7, 8, 9, 10] rfl
      have hDc := hD.sub (ws' := (wT cs a T)) [0, 1, 2, 3, 4, 5, 6, 7, 8, 9, 10] (by decide) rfl
      have hFc := va_free (wc := (wT cs a T)) hD hS hA [0, 1, 2, 3, 4, 5, 6, 7, 8, 9, 10] rfl
      refine va_callv (va_runV (As := [.int (x2)]) (rest := []) C (c_X5_giveOrStop l dC dI cs a H.size T x2 r55 hr55) (cwV 1 hts gX5_liveMonth_X5_giveOrStop rfl rfl rfl (by decide +kernel) ⟨Nat.le_of_ble_eq_true rfl, Nat.le_of_ble_eq_true rfl⟩) ⟨(fun a U g mk q => ⟨q.1, q.2.1, q.2.2.1, GE.calling q.2.2.2.1, q.2.2.2.2⟩), va_recv hK hPc (ci := 5) (q0 := 0) rfl rfl, (fun U hU hW => ⟨rfl, by rw [hU], by rw [hU]; exact hPc, GE.warm hW G, hDc.weaken (fun _ _ _ _ => trivial)⟩)⟩ rfl rfl hl.1 rfl (lv_room (Nat.le_of_ble_eq_true rfl)) dX5_liveMonth_55 ⟨Nat.le_of_ble_eq_true rfl, Nat.le_of_ble_eq_true rfl⟩) hS (fun q _ h => hFc q h) hFc (fun u t H1 locs ht hvm hw hB hz1 hk1 hS => ?_)
      obtain rfl := hw.symm
      obtain ⟨hP1, hD1⟩ := hB
      rw [ht] at hP1
      obtain ⟨hP, hD⟩ := va_join (wr := []) (w1 := (wT cs a r55)) hP hD [0, 1, 2, 3, 4, 5, 6, 7, 8, 9, 10] [] rfl rfl (by decide) (by decide) hk1 hFc hP1 hD1
      generalize H1 = H at hP hS ⊢
      have hP := hP.sub (ws' := (wT cs a r55)) [0, 1, 2, 3, 4, 5, 6, 7, 8, 9, 10] rfl
      have hD := hD.sub (ws' := (wT cs a r55)) [0, 1, 2, 3, 4, 5, 6, 7, 8, 9, 10] (by decide) rfl
      exact b_X5_liveMonth_58 C G hA hR x2 r55 hK36 _ _ _ (lv_sub hl [0, 1] rfl) hP hD hS hf
def l_X5_liveMonth_36  (K64 : Tw → Option Tw) (n : Nat) (x2 : Int32) (T : Tw) : Option Tw := itr (fun (k : Int32 × Tw → Option Tw) (z : Int32 × Tw) => f_X5_liveMonth_36 z.1 z.2 (fun x2 T => k (x2, T)) K64) n (x2, T)
set_option maxHeartbeats 4000000 in
set_option maxRecDepth 100000 in
theorem w_X5_liveMonth_36 {p : Program} {l : Launch} {e : Env} {s : State} {m : MethodId} {args : Array Value} {below : List Frame} {meth : Method} {c : Code} {Q : State → Prop} {dC : Nat → ClassId} {dI : Nat → Nat → Nat} {cs : Nat → ClassId} {A : Nat → Prop} {a : Nat → Nat} {res : Tw} (C : CallFix p m c cX5_liveMonth 3 s args wsX5_liveMonth RX5) (G : GE dC dI cs s) (hA : ∀ q : Nat, s.heap.size ≤ q → A q) (hR : RTv p l e ({ frames := 3, cells := 0, slots := 0, locals := 66 }) s m args below meth c cX5_liveMonth Q (dC, dI) A (fun u : Tw => (wT cs a u)) res)  {K64 : Tw → Option Tw} (hK64 : ∀ (T : Tw) (H : Heap) (locs : List Loc) (ls : Array Slot), lv_has ls 3 [(0, .ref (a 0))] → va_P (dC, dI) vwCl (wT cs a T) H → va_D A (wT cs a T) → va_S A s.heap H locs → K64 T = some res → W p l e ({ frames := 3, cells := 0, slots := 0, locals := 66 }) s m args below meth c H locs 0 0 Q (F0 m 64 ls [])) : ∀ (n : Nat) (x2 : Int32) (T : Tw) (H : Heap) (locs : List Loc) (ls : Array Slot), lv_has ls 3 [(0, .ref (a 0)), (2, .int (x2))] → va_P (dC, dI) vwCl (wT cs a T) H → va_D A (wT cs a T) → va_S A s.heap H locs → l_X5_liveMonth_36 K64 n x2 T = some res → W p l e ({ frames := 3, cells := 0, slots := 0, locals := 66 }) s m args below meth c H locs 0 0 Q (F0 m 36 ls []) := by
  intro n
  induction n with
  | zero => intro x2 T H locs ls hl hP hD hS hf; exact absurd hf (by simp [l_X5_liveMonth_36, itr])
  | succ n ih => intro x2 T H locs ls hl hP hD hS hf; exact b_X5_liveMonth_36 C G hA hR x2 T (K36 := fun x2 T => l_X5_liveMonth_36 K64 n x2 T) (fun x2 T H locs ls hl hP hD hS hf => ih x2 T H locs ls hl hP hD hS hf) hK64 H locs ls hl hP hD hS hf
def f_X5_liveMonth_89 (x2 : Int32) (T : Tw) (K66 : Int32 → Tw → Option Tw) : Option Tw :=
  lett (x2 + 1) fun x2_89 =>
  K66 x2_89 T
set_option maxHeartbeats 4000000 in
set_option maxRecDepth 100000 in
theorem b_X5_liveMonth_89 {p : Program} {l : Launch} {e : Env} {s : State} {m : MethodId} {args : Array Value} {below : List Frame} {meth : Method} {c : Code} {Q : State → Prop} {dC : Nat → ClassId} {dI : Nat → Nat → Nat} {cs : Nat → ClassId} {A : Nat → Prop} {a : Nat → Nat} {res : Tw} (C : CallFix p m c cX5_liveMonth 3 s args wsX5_liveMonth RX5) (G : GE dC dI cs s) (hA : ∀ q : Nat, s.heap.size ≤ q → A q) (hR : RTv p l e ({ frames := 3, cells := 0, slots := 0, locals := 66 }) s m args below meth c cX5_liveMonth Q (dC, dI) A (fun u : Tw => (wT cs a u)) res) (x2 : Int32) (T : Tw) {K66 : Int32 → Tw → Option Tw} (hK66 : ∀ (x2 : Int32) (T : Tw) (H : Heap) (locs : List Loc) (ls : Array Slot), lv_has ls 3 [(0, .ref (a 0)), (2, .int (x2))] → va_P (dC, dI) vwCl (wT cs a T) H → va_D A (wT cs a T) → va_S A s.heap H locs → K66 x2 T = some res → W p l e ({ frames := 3, cells := 0, slots := 0, locals := 66 }) s m args below meth c H locs 0 0 Q (F0 m 66 ls [])) (H : Heap) (locs : List Loc) (ls : Array Slot) (hl : lv_has ls 3 [(0, .ref (a 0)), (2, .int (x2))]) (hP : va_P (dC, dI) vwCl (wT cs a T) H) (hD : va_D A (wT cs a T)) (hS : va_S A s.heap H locs) (hf : f_X5_liveMonth_89 x2 T K66 = some res) : W p l e ({ frames := 3, cells := 0, slots := 0, locals := 66 }) s m args below meth c H locs 0 0 Q (F0 m 89 ls []) := by
  obtain ⟨hx, hb, hml, hown, hts⟩ := id C
  obtain ⟨hK, hN⟩ := id G
  unfold f_X5_liveMonth_89 at hf
  obtain ⟨x2_89, ex2_89⟩ : ∃ y : Int32, y = (x2 + 1) := ⟨_, rfl⟩
  replace hf := lett_s ex2_89 hf
  refine lv_iinc (v := x2_89) (lv' := [(2, .int (x2_89)), (0, .ref (a 0))]) hx hb dX5_liveMonth_89 hl (k := 1) rfl (by rw [ex2_89]; rfl) (by decide) rfl (fun ls hl => ?_)
  refine lv_goto (tgt := 66) hx hb dX5_liveMonth_92 (by decide) ?_
  exact hK66 x2_89 T _ _ _ (lv_sub hl [1, 0] rfl) hP hD hS hf
def f_X5_liveMonth_66 (x2 : Int32) (T : Tw) (K66 : Int32 → Tw → Option Tw) (K95 : Tw → Option Tw) : Option Tw :=
  if (T.1 5) ≤ x2 then (
    K95 T
  ) else (
    gi (x2) 8 <|
    if ((T.2 6) (x2).toNatClampNeg) = (3 : Int32) then (
      bn (f_X5_payOrLack x2 T) fun r86 =>
      f_X5_liveMonth_89 x2 r86 K66
    ) else (
      f_X5_liveMonth_89 x2 T K66
    )
  )
set_option maxHeartbeats 4000000 in
set_option maxRecDepth 100000 in
theorem b_X5_liveMonth_66 {p : Program} {l : Launch} {e : Env} {s : State} {m : MethodId} {args : Array Value} {below : List Frame} {meth : Method} {c : Code} {Q : State → Prop} {dC : Nat → ClassId} {dI : Nat → Nat → Nat} {cs : Nat → ClassId} {A : Nat → Prop} {a : Nat → Nat} {res : Tw} (C : CallFix p m c cX5_liveMonth 3 s args wsX5_liveMonth RX5) (G : GE dC dI cs s) (hA : ∀ q : Nat, s.heap.size ≤ q → A q) (hR : RTv p l e ({ frames := 3, cells := 0, slots := 0, locals := 66 }) s m args below meth c cX5_liveMonth Q (dC, dI) A (fun u : Tw => (wT cs a u)) res) (x2 : Int32) (T : Tw) {K66 : Int32 → Tw → Option Tw} {K95 : Tw → Option Tw} (hK66 : ∀ (x2 : Int32) (T : Tw) (H : Heap) (locs : List Loc) (ls : Array Slot), lv_has ls 3 [(0, .ref (a 0)), (2, .int (x2))] → va_P (dC, dI) vwCl (wT cs a T) H → va_D A (wT cs a T) → va_S A s.heap H locs → K66 x2 T = some res → W p l e ({ frames := 3, cells := 0, slots := 0, locals := 66 }) s m args below meth c H locs 0 0 Q (F0 m 66 ls [])) (hK95 : ∀ (T : Tw) (H : Heap) (locs : List Loc) (ls : Array Slot), lv_has ls 3 [(0, .ref (a 0))] → va_P (dC, dI) vwCl (wT cs a T) H → va_D A (wT cs a T) → va_S A s.heap H locs → K95 T = some res → W p l e ({ frames := 3, cells := 0, slots := 0, locals := 66 }) s m args below meth c H locs 0 0 Q (F0 m 95 ls [])) (H : Heap) (locs : List Loc) (ls : Array Slot) (hl : lv_has ls 3 [(0, .ref (a 0)), (2, .int (x2))]) (hP : va_P (dC, dI) vwCl (wT cs a T) H) (hD : va_D A (wT cs a T)) (hS : va_S A s.heap H locs) (hf : f_X5_liveMonth_66 x2 T K66 K95 = some res) : W p l e ({ frames := 3, cells := 0, slots := 0, locals := 66 }) s m args below meth c H locs 0 0 Q (F0 m 66 ls []) := by
  obtain ⟨hx, hb, hml, hown, hts⟩ := id C
  obtain ⟨hK, hN⟩ := id G
  unfold f_X5_liveMonth_66 at hf
  refine lv_iload_n hx hb dX5_liveMonth_66 rfl (lv_at hl 1 rfl) ?_
  refine lv_aload_n hx hb dX5_liveMonth_67 rfl (lv_at hl 0 rfl) ?_
  refine va_get (D := (dC, dI)) (ci := 5) (v := .int ((T.1 5))) (C := RX5) (T := TX5) (N := 17) hx hb hts in_X5_liveMonth_X5 hown hK hP 0 rfl rfl 5 (by decide) (hts (.fieldLink RX5 58 "BackLoans$Town" "loans" "I") (by decide +kernel)) (fun _ h9 => h9) rfl dX5_liveMonth_68 ?_
  refine lv_icmp_ge (tgt := 95) hx hb dX5_liveMonth_71 (by decide) (fun c1 => ?_) (fun c1 => ?_)
  · replace hf := it_t c1 hf
    exact hK95 T _ _ _ (lv_sub hl [0] rfl) hP hD hS hf
  · replace hf := it_f c1 hf
    refine lv_aload_n hx hb dX5_liveMonth_74 rfl (lv_at hl 0 rfl) ?_
    refine va_get (D := (dC, dI)) (ci := 5) (v := .ref (a 7)) (C := RX5) (T := TX5) (N := 17) hx hb hts in_X5_liveMonth_X5 hown hK hP 0 rfl rfl 13 (by decide) (hts (.fieldLink RX5 30 "BackLoans$Town" "state" "[I") (by decide +kernel)) (fun _ h9 => h9) rfl dX5_liveMonth_75 ?_
    refine lv_iload_n hx hb dX5_liveMonth_78 rfl (lv_at hl 1 rfl) ?_
    obtain ⟨hi2, hf⟩ := gi_e hf
    refine va_iald hx hb hK hP 7 0 rfl rfl hi2 dX5_liveMonth_79 ?_
    refine lv_iconst (v := 3) hx hb dX5_liveMonth_80 (by decide) ?_
    refine lv_icmp_ne (tgt := 89) hx hb dX5_liveMonth_81 (by decide) (fun c3 => ?_) (fun c3 => ?_)
    · replace hf := it_f c3 hf
      exact b_X5_liveMonth_89 C G hA hR x2 T hK66 _ _ _ (lv_sub hl [0, 1] rfl) hP hD hS hf
    · replace hf := it_t c3 hf
      refine lv_aload_n hx hb dX5_liveMonth_84 rfl (lv_at hl 0 rfl) ?_
      refine lv_iload_n hx hb dX5_liveMonth_85 rfl (lv_at hl 1 rfl) ?_
      obtain ⟨r86, hr86, hf⟩ := bn_e hf
      have hPc := hP.sub (ws' := (wT cs a T)) [0, 1, 2, 3, 4, 5, 6, 7, 8, 9, 10] rfl
      have hDc := hD.sub (ws' := (wT cs a T)) [0, 1, 2, 3, 4, 5, 6, 7, 8, 9, 10] (by decide) rfl
      have hFc := va_free (wc := (wT cs a T)) hD hS hA [0, 1, 2, 3, 4, 5, 6, 7, 8, 9, 10] rfl
      refine va_callv (va_runV (As := [.int (x2)]) (rest := []) C (c_X5_payOrLack l dC dI cs a H.size T x2 r86 hr86) (cwV 1 hts gX5_liveMonth_X5_payOrLack rfl rfl rfl (by decide +kernel) ⟨Nat.le_of_ble_eq_true rfl, Nat.le_of_ble_eq_true rfl⟩) ⟨(fun a U g mk q => ⟨q.1, q.2.1, q.2.2.1, GE.calling q.2.2.2.1, q.2.2.2.2⟩), va_recv hK hPc (ci := 5) (q0 := 0) rfl rfl, (fun U hU hW => ⟨rfl, by rw [hU], by rw [hU]; exact hPc, GE.warm hW G, hDc.weaken (fun _ _ _ _ => trivial)⟩)⟩ rfl rfl hl.1 rfl (lv_room (Nat.le_of_ble_eq_true rfl)) dX5_liveMonth_86 ⟨Nat.le_of_ble_eq_true rfl, Nat.le_of_ble_eq_true rfl⟩) hS (fun q _ h => hFc q h) hFc (fun u t H1 locs ht hvm hw hB hz1 hk1 hS => ?_)
      obtain rfl := hw.symm
      obtain ⟨hP1, hD1⟩ := hB
      rw [ht] at hP1
      obtain ⟨hP, hD⟩ := va_join (wr := []) (w1 := (wT cs a r86)) hP hD [0, 1, 2, 3, 4, 5, 6, 7, 8, 9, 10] [] rfl rfl (by decide) (by decide) hk1 hFc hP1 hD1
      generalize H1 = H at hP hS ⊢
      have hP := hP.sub (ws' := (wT cs a r86)) [0, 1, 2, 3, 4, 5, 6, 7, 8, 9, 10] rfl
      have hD := hD.sub (ws' := (wT cs a r86)) [0, 1, 2, 3, 4, 5, 6, 7, 8, 9, 10] (by decide) rfl
      exact b_X5_liveMonth_89 C G hA hR x2 r86 hK66 _ _ _ (lv_sub hl [0, 1] rfl) hP hD hS hf
def l_X5_liveMonth_66  (K95 : Tw → Option Tw) (n : Nat) (x2 : Int32) (T : Tw) : Option Tw := itr (fun (k : Int32 × Tw → Option Tw) (z : Int32 × Tw) => f_X5_liveMonth_66 z.1 z.2 (fun x2 T => k (x2, T)) K95) n (x2, T)
set_option maxHeartbeats 4000000 in
set_option maxRecDepth 100000 in
theorem w_X5_liveMonth_66 {p : Program} {l : Launch} {e : Env} {s : State} {m : MethodId} {args : Array Value} {below : List Frame} {meth : Method} {c : Code} {Q : State → Prop} {dC : Nat → ClassId} {dI : Nat → Nat → Nat} {cs : Nat → ClassId} {A : Nat → Prop} {a : Nat → Nat} {res : Tw} (C : CallFix p m c cX5_liveMonth 3 s args wsX5_liveMonth RX5) (G : GE dC dI cs s) (hA : ∀ q : Nat, s.heap.size ≤ q → A q) (hR : RTv p l e ({ frames := 3, cells := 0, slots := 0, locals := 66 }) s m args below meth c cX5_liveMonth Q (dC, dI) A (fun u : Tw => (wT cs a u)) res)  {K95 : Tw → Option Tw} (hK95 : ∀ (T : Tw) (H : Heap) (locs : List Loc) (ls : Array Slot), lv_has ls 3 [(0, .ref (a 0))] → va_P (dC, dI) vwCl (wT cs a T) H → va_D A (wT cs a T) → va_S A s.heap H locs → K95 T = some res → W p l e ({ frames := 3, cells := 0, slots := 0, locals := 66 }) s m args below meth c H locs 0 0 Q (F0 m 95 ls [])) : ∀ (n : Nat) (x2 : Int32) (T : Tw) (H : Heap) (locs : List Loc) (ls : Array Slot), lv_has ls 3 [(0, .ref (a 0)), (2, .int (x2))] → va_P (dC, dI) vwCl (wT cs a T) H → va_D A (wT cs a T) → va_S A s.heap H locs → l_X5_liveMonth_66 K95 n x2 T = some res → W p l e ({ frames := 3, cells := 0, slots := 0, locals := 66 }) s m args below meth c H locs 0 0 Q (F0 m 66 ls []) := by
  intro n
  induction n with
  | zero => intro x2 T H locs ls hl hP hD hS hf; exact absurd hf (by simp [l_X5_liveMonth_66, itr])
  | succ n ih => intro x2 T H locs ls hl hP hD hS hf; exact b_X5_liveMonth_66 C G hA hR x2 T (K66 := fun x2 T => l_X5_liveMonth_66 K95 n x2 T) (fun x2 T H locs ls hl hP hD hS hf => ih x2 T H locs ls hl hP hD hS hf) hK95 H locs ls hl hP hD hS hf
def f_X5_liveMonth_95 (T : Tw)  : Option Tw :=
  lett ((upd T.1 2 (((T.1 2) + (1 : Int32))), T.2)) fun T_102 =>
  some T_102
set_option maxHeartbeats 4000000 in
set_option maxRecDepth 100000 in
theorem b_X5_liveMonth_95 {p : Program} {l : Launch} {e : Env} {s : State} {m : MethodId} {args : Array Value} {below : List Frame} {meth : Method} {c : Code} {Q : State → Prop} {dC : Nat → ClassId} {dI : Nat → Nat → Nat} {cs : Nat → ClassId} {A : Nat → Prop} {a : Nat → Nat} {res : Tw} (C : CallFix p m c cX5_liveMonth 3 s args wsX5_liveMonth RX5) (G : GE dC dI cs s) (hA : ∀ q : Nat, s.heap.size ≤ q → A q) (hR : RTv p l e ({ frames := 3, cells := 0, slots := 0, locals := 66 }) s m args below meth c cX5_liveMonth Q (dC, dI) A (fun u : Tw => (wT cs a u)) res) (T : Tw)   (H : Heap) (locs : List Loc) (ls : Array Slot) (hl : lv_has ls 3 [(0, .ref (a 0))]) (hP : va_P (dC, dI) vwCl (wT cs a T) H) (hD : va_D A (wT cs a T)) (hS : va_S A s.heap H locs) (hf : f_X5_liveMonth_95 T = some res) : W p l e ({ frames := 3, cells := 0, slots := 0, locals := 66 }) s m args below meth c H locs 0 0 Q (F0 m 95 ls []) := by
  obtain ⟨hx, hb, hml, hown, hts⟩ := id C
  obtain ⟨hK, hN⟩ := id G
  unfold f_X5_liveMonth_95 at hf
  refine lv_aload_n hx hb dX5_liveMonth_95 rfl (lv_at hl 0 rfl) ?_
  refine lv_dup hx hb dX5_liveMonth_96 rfl ?_
  refine va_get (D := (dC, dI)) (ci := 5) (v := .int ((T.1 2))) (C := RX5) (T := TX5) (N := 17) hx hb hts in_X5_liveMonth_X5 hown hK hP 0 rfl rfl 2 (by decide) (hts (.fieldLink RX5 49 "BackLoans$Town" "month" "I") (by decide +kernel)) (fun _ h9 => h9) rfl dX5_liveMonth_97 ?_
  refine lv_iconst (v := 1) hx hb dX5_liveMonth_100 (by decide) ?_
  refine lv_iadd hx hb dX5_liveMonth_101 ?_
  refine va_put (D := (dC, dI)) (ci := 5) (v := .int (((T.1 2) + (1 : Int32)))) (ty := .int) (C := RX5) (T := TX5) (N := 17) hx hb hts in_X5_liveMonth_X5 tyX5 tyX5_ok nmX5 hown hK hP hD hS 0 rfl rfl 2 (by decide) (hts (.fieldLink RX5 49 "BackLoans$Town" "month" "I") (by decide +kernel)) (fun _ h9 => h9) rfl (by decide +kernel) rfl rfl (Nat.le_of_ble_eq_true rfl) dX5_liveMonth_102 (fun H locs hP hD hS => ?_)
  obtain ⟨T_102, hP, hD, hf⟩ := st_nm (ws := fun T_102 : Tw => (wT cs a T_102)) ((upd T.1 2 (((T.1 2) + (1 : Int32))), T.2)) hP hD hf
  exact hR _ _ _ _ _ dX5_liveMonth_105 hf hP hD hS
def f_X5_liveMonth_64 (T : Tw)  : Option Tw :=
  lett (0 : Int32) fun x2_65 =>
  l_X5_liveMonth_66 (fun Tz => f_X5_liveMonth_95 Tz) FU x2_65 T
set_option maxHeartbeats 4000000 in
set_option maxRecDepth 100000 in
theorem b_X5_liveMonth_64 {p : Program} {l : Launch} {e : Env} {s : State} {m : MethodId} {args : Array Value} {below : List Frame} {meth : Method} {c : Code} {Q : State → Prop} {dC : Nat → ClassId} {dI : Nat → Nat → Nat} {cs : Nat → ClassId} {A : Nat → Prop} {a : Nat → Nat} {res : Tw} (C : CallFix p m c cX5_liveMonth 3 s args wsX5_liveMonth RX5) (G : GE dC dI cs s) (hA : ∀ q : Nat, s.heap.size ≤ q → A q) (hR : RTv p l e ({ frames := 3, cells := 0, slots := 0, locals := 66 }) s m args below meth c cX5_liveMonth Q (dC, dI) A (fun u : Tw => (wT cs a u)) res) (T : Tw)   (H : Heap) (locs : List Loc) (ls : Array Slot) (hl : lv_has ls 3 [(0, .ref (a 0))]) (hP : va_P (dC, dI) vwCl (wT cs a T) H) (hD : va_D A (wT cs a T)) (hS : va_S A s.heap H locs) (hf : f_X5_liveMonth_64 T = some res) : W p l e ({ frames := 3, cells := 0, slots := 0, locals := 66 }) s m args below meth c H locs 0 0 Q (F0 m 64 ls []) := by
  obtain ⟨hx, hb, hml, hown, hts⟩ := id C
  obtain ⟨hK, hN⟩ := id G
  unfold f_X5_liveMonth_64 at hf
  refine lv_iconst (v := 0) hx hb dX5_liveMonth_64 (by decide) ?_
  refine lv_topi (fun x2_65 ex2_65 => ?_)
  replace hf := lett_s ex2_65 hf
  refine lv_istore_n (lv' := [(2, .int (x2_65)), (0, .ref (a 0))]) hx hb dX5_liveMonth_65 rfl hl (by decide) rfl (fun ls hl => ?_)
  exact w_X5_liveMonth_66 C G hA hR (fun Tz H locs ls hl hP hD hS hf => b_X5_liveMonth_95 C G hA hR Tz _ _ _ hl hP hD hS hf) FU x2_65 T _ _ _ (lv_sub hl [1, 0] rfl) hP hD hS hf
def f_X5_liveMonth_34 (T : Tw)  : Option Tw :=
  lett (0 : Int32) fun x2_35 =>
  l_X5_liveMonth_36 (fun Tz => f_X5_liveMonth_64 Tz) FU x2_35 T
set_option maxHeartbeats 4000000 in
set_option maxRecDepth 100000 in
theorem b_X5_liveMonth_34 {p : Program} {l : Launch} {e : Env} {s : State} {m : MethodId} {args : Array Value} {below : List Frame} {meth : Method} {c : Code} {Q : State → Prop} {dC : Nat → ClassId} {dI : Nat → Nat → Nat} {cs : Nat → ClassId} {A : Nat → Prop} {a : Nat → Nat} {res : Tw} (C : CallFix p m c cX5_liveMonth 3 s args wsX5_liveMonth RX5) (G : GE dC dI cs s) (hA : ∀ q : Nat, s.heap.size ≤ q → A q) (hR : RTv p l e ({ frames := 3, cells := 0, slots := 0, locals := 66 }) s m args below meth c cX5_liveMonth Q (dC, dI) A (fun u : Tw => (wT cs a u)) res) (T : Tw)   (H : Heap) (locs : List Loc) (ls : Array Slot) (hl : lv_has ls 3 [(0, .ref (a 0))]) (hP : va_P (dC, dI) vwCl (wT cs a T) H) (hD : va_D A (wT cs a T)) (hS : va_S A s.heap H locs) (hf : f_X5_liveMonth_34 T = some res) : W p l e ({ frames := 3, cells := 0, slots := 0, locals := 66 }) s m args below meth c H locs 0 0 Q (F0 m 34 ls []) := by
  obtain ⟨hx, hb, hml, hown, hts⟩ := id C
  obtain ⟨hK, hN⟩ := id G
  unfold f_X5_liveMonth_34 at hf
  refine lv_iconst (v := 0) hx hb dX5_liveMonth_34 (by decide) ?_
  refine lv_topi (fun x2_35 ex2_35 => ?_)
  replace hf := lett_s ex2_35 hf
  refine lv_istore_n (lv' := [(2, .int (x2_35)), (0, .ref (a 0))]) hx hb dX5_liveMonth_35 rfl hl (by decide) rfl (fun ls hl => ?_)
  exact w_X5_liveMonth_36 C G hA hR (fun Tz H locs ls hl hP hD hS hf => b_X5_liveMonth_64 C G hA hR Tz _ _ _ hl hP hD hS hf) FU x2_35 T _ _ _ (lv_sub hl [1, 0] rfl) hP hD hS hf
def f_X5_liveMonth (x1 : Int32) (T : Tw) : Option Tw :=
  lett (0 : Int32) fun x2_1 =>
  l_X5_liveMonth_2 x1 (fun Tz => f_X5_liveMonth_34 Tz) FU x2_1 T
set_option maxHeartbeats 4000000 in
set_option maxRecDepth 100000 in
theorem c_X5_liveMonth (l : Launch) (dC : Nat → ClassId) (dI : Nat → Nat → Nat) (cs : Nat → ClassId) (a : Nat → Nat) (sz : Nat) (T : Tw) (x1 : Int32) (res : Tw) (hf : f_X5_liveMonth x1 T = some res) : Met l yX5_liveMonth wsX5_liveMonth ({ frames := 3, cells := 0, slots := 0, locals := 66 }) (va_Pc [.ref (a 0), .int (x1)] (fun U => U.heap.size = sz ∧ va_P (dC, dI) vwCl (wT cs a T) U.heap ∧ GE dC dI cs U ∧ va_D (fun _ => True) (wT cs a T))) (va_Qv (fun u : Tw => u = res) (fun u t => va_P (dC, dI) vwCl ((fun u : Tw => (wT cs a u)) u) t.heap ∧ va_D (va_A (wT cs a T) sz) ((fun u : Tw => (wT cs a u)) u)) (va_A (wT cs a T) sz)) 0 0 (va_A (wT cs a T) sz) := by
  refine Met.ofW (cc := cX5_liveMonth) (maxL := 3) (ret := none) (by decide) rfl ?_
  intro p e s m args below meth c s₁ B hml hv
  obtain ⟨rfl, hsz, hP, G, hD0⟩ := hv
  have hts := atoms_spec (ws := wsX5_liveMonth) B.pre
  have hown : s.vm.findClass RX5 = some m.cls := findClass_of_methodNamed B.named
  have hlocks := B.notSynchronized
  have hx := B.exec
  have hb := B.bytes
  have hr := B.returns
  have C : CallFix p m c cX5_liveMonth 3 s _ wsX5_liveMonth RX5 := ⟨hx, hb, hml, hown, hts⟩
  obtain ⟨hK, hN⟩ := id G
  subst hsz
  have hD := hD0.self (sz := s.heap.size)
  generalize hAe : va_A (wT cs a T) s.heap.size = A at hD ⊢
  have hA : ∀ q : Nat, s.heap.size ≤ q → A q := fun q h => by rw [← hAe]; exact Or.inr h
  have hS : va_S A s.heap s.heap [] := va_S.rf
  have hR : RTv p l e ({ frames := 3, cells := 0, slots := 0, locals := 66 }) s m ([.ref (a 0), .int (x1)] : List Value).toArray below meth c cX5_liveMonth (MQ below (va_Qv (fun u : Tw => u = res) (fun u t => va_P (dC, dI) vwCl ((fun u : Tw => (wT cs a u)) u) t.heap ∧ va_D A ((fun u : Tw => (wT cs a u)) u)) A) ([.ref (a 0), .int (x1)] : List Value).toArray s 0 0 A) (dC, dI) A (fun u : Tw => (wT cs a u)) res := fun H locs pc ls u dd h hP hD hS => W.vret hx hb hr (fun t ht hW => ⟨⟨u, rfl, by cases h; rfl, by rw [ht]; exact hP, hD⟩, hS.F ht⟩) hS.2.2 dd
  have hl := lv_entry ([.ref (a 0), .int (x1)]) (n := 3) (Nat.le_of_ble_eq_true rfl)
  rw [lg_entry_eq]
  generalize (lg_sl ([.ref (a 0), .int (x1)]) ++ List.replicate (3 - (lg_sl ([.ref (a 0), .int (x1)])).length) Slot.unset).toArray = ls at hl ⊢
  have hl : lv_has ls 3 [(0, .ref (a 0)), (1, .int (x1))] := hl
  unfold f_X5_liveMonth at hf
  refine lv_iconst (v := 0) hx hb dX5_liveMonth_0 (by decide) ?_
  refine lv_topi (fun x2_1 ex2_1 => ?_)
  replace hf := lett_s ex2_1 hf
  refine lv_istore_n (lv' := [(2, .int (x2_1)), (0, .ref (a 0)), (1, .int (x1))]) hx hb dX5_liveMonth_1 rfl hl (by decide) rfl (fun ls hl => ?_)
  exact w_X5_liveMonth_2 C G hA hR x1 (fun Tz H locs ls hl hP hD hS hf => b_X5_liveMonth_34 C G hA hR Tz _ _ _ hl hP hD hS hf) FU x2_1 T _ _ _ (lv_sub hl [1, 2, 0] rfl) hP hD hS hf

