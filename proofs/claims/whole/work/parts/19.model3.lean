theorem itr_s {σ β : Type} (body : (σ → Option β) → σ → Option β) (n : Nat) (z : σ) : itr body (n + 1) z = body (itr body n) z := rfl
theorem in_X8_bears_X8 : ∀ w ∈ wsX80, w ∈ wsX8_bears := by decide +kernel
def f_X8_bears_62 (x1 : Int32) (x2 : Int32) (x3 : Int32) (x4 : Int32) (M : Ms) (K7 : Int32 → Ms → Option (Int32 × Ms)) : Option (Int32 × Ms) :=
  lett (x4 + 1) fun x4_62 =>
  K7 x4_62 M
set_option maxHeartbeats 4000000 in
set_option maxRecDepth 100000 in
theorem b_X8_bears_62 {p : Program} {l : Launch} {e : Env} {s : State} {m : MethodId} {args : Array Value} {below : List Frame} {meth : Method} {c : Code} {Q : State → Prop} {dC : Nat → ClassId} {dI : Nat → Nat → Nat} {cs : Nat → ClassId} {A : Nat → Prop} {a : Nat → Nat} {res : Int32 × Ms} (C : CallFix p m c cX8_bears 5 s args wsX8_bears RX8) (G : GE dC dI cs s) (hA : ∀ q : Nat, s.heap.size ≤ q → A q) (hR : RTz p l e ({ frames := 3, cells := 0, slots := 0, locals := 70 }) s m args below meth c cX8_bears Q (dC, dI) A (fun u : Ms => (wM cs a u)) res) (x1 : Int32) (x2 : Int32) (x3 : Int32) (x4 : Int32) (M : Ms) {K7 : Int32 → Ms → Option (Int32 × Ms)} (hK7 : ∀ (x4 : Int32) (M : Ms) (H : Heap) (locs : List Loc) (ls : Array Slot), lv_has ls 5 [(0, .ref (a 0)), (1, .int (x1)), (2, .int (x2)), (3, .int (x3)), (4, .int (x4))] → va_P (dC, dI) vwCl (wM cs a M) H → va_D A (wM cs a M) → va_S A s.heap H locs → K7 x4 M = some res → W p l e ({ frames := 3, cells := 0, slots := 0, locals := 70 }) s m args below meth c H locs 0 0 Q (F0 m 7 ls [])) (H : Heap) (locs : List Loc) (ls : Array Slot) (hl : lv_has ls 5 [(0, .ref (a 0)), (1, .int (x1)), (2, .int (x2)), (3, .int (x3)), (4, .int (x4))]) (hP : va_P (dC, dI) vwCl (wM cs a M) H) (hD : va_D A (wM cs a M)) (hS : va_S A s.heap H locs) (hf : f_X8_bears_62 x1 x2 x3 x4 M K7 = some res) : W p l e ({ frames := 3, cells := 0, slots := 0, locals := 70 }) s m args below meth c H locs 0 0 Q (F0 m 62 ls []) := by
  obtain ⟨hx, hb, hml, hown, hts⟩ := id C
  obtain ⟨hK, hN⟩ := id G
  unfold f_X8_bears_62 at hf
  obtain ⟨x4_62, ex4_62⟩ : ∃ y : Int32, y = (x4 + 1) := ⟨_, rfl⟩
  replace hf := lett_s ex4_62 hf
  refine lv_iinc (v := x4_62) (lv' := [(4, .int (x4_62)), (0, .ref (a 0)), (1, .int (x1)), (2, .int (x2)), (3, .int (x3))]) hx hb dX8_bears_62 hl (k := 4) rfl (by rw [ex4_62]; rfl) (by decide) rfl (fun ls hl => ?_)
  refine lv_goto (tgt := 7) hx hb dX8_bears_65 (by decide) ?_
  exact hK7 x4_62 M _ _ _ (lv_sub hl [1, 2, 3, 4, 0] rfl) hP hD hS hf
def f_X8_bears_7 (x1 : Int32) (x2 : Int32) (x3 : Int32) (x4 : Int32) (M : Ms) (K7 : Int32 → Ms → Option (Int32 × Ms)) (K68 : Ms → Option (Int32 × Ms)) : Option (Int32 × Ms) :=
  gi ((5 : Int32)) 362 <|
  if ((M.2.2 0) ((5 : Int32)).toNatClampNeg) ≤ x4 then (
    K68 M
  ) else (
    if ((x2 >>> (x4 &&& 31)) &&& (1 : Int32)) = (1 : Int32) then (
      gi (((66 : Int32) + ((2 : Int32) * x4))) 362 <|
      gi ((((66 : Int32) + ((2 : Int32) * x4)) + (1 : Int32))) 362 <|
      bn (f_X8_addLoan x1 ((M.2.2 0) (((66 : Int32) + ((2 : Int32) * x4))).toNatClampNeg) ((M.2.2 0) ((((66 : Int32) + ((2 : Int32) * x4)) + (1 : Int32))).toNatClampNeg) (M.2.2 1)) fun r59 =>
      lett ((M.1, M.2.1, va_up M.2.2 1 (r59))) fun M_59 =>
      f_X8_bears_62 x1 x2 x3 x4 M_59 K7
    ) else (
      f_X8_bears_62 x1 x2 x3 x4 M K7
    )
  )
set_option maxHeartbeats 4000000 in
set_option maxRecDepth 100000 in
theorem b_X8_bears_7 {p : Program} {l : Launch} {e : Env} {s : State} {m : MethodId} {args : Array Value} {below : List Frame} {meth : Method} {c : Code} {Q : State → Prop} {dC : Nat → ClassId} {dI : Nat → Nat → Nat} {cs : Nat → ClassId} {A : Nat → Prop} {a : Nat → Nat} {res : Int32 × Ms} (C : CallFix p m c cX8_bears 5 s args wsX8_bears RX8) (G : GE dC dI cs s) (hA : ∀ q : Nat, s.heap.size ≤ q → A q) (hR : RTz p l e ({ frames := 3, cells := 0, slots := 0, locals := 70 }) s m args below meth c cX8_bears Q (dC, dI) A (fun u : Ms => (wM cs a u)) res) (x1 : Int32) (x2 : Int32) (x3 : Int32) (x4 : Int32) (M : Ms) {K7 : Int32 → Ms → Option (Int32 × Ms)} {K68 : Ms → Option (Int32 × Ms)} (hK7 : ∀ (x4 : Int32) (M : Ms) (H : Heap) (locs : List Loc) (ls : Array Slot), lv_has ls 5 [(0, .ref (a 0)), (1, .int (x1)), (2, .int (x2)), (3, .int (x3)), (4, .int (x4))] → va_P (dC, dI) vwCl (wM cs a M) H → va_D A (wM cs a M) → va_S A s.heap H locs → K7 x4 M = some res → W p l e ({ frames := 3, cells := 0, slots := 0, locals := 70 }) s m args below meth c H locs 0 0 Q (F0 m 7 ls [])) (hK68 : ∀ (M : Ms) (H : Heap) (locs : List Loc) (ls : Array Slot), lv_has ls 5 [(0, .ref (a 0)), (3, .int (x3))] → va_P (dC, dI) vwCl (wM cs a M) H → va_D A (wM cs a M) → va_S A s.heap H locs → K68 M = some res → W p l e ({ frames := 3, cells := 0, slots := 0, locals := 70 }) s m args below meth c H locs 0 0 Q (F0 m 68 ls [])) (H : Heap) (locs : List Loc) (ls : Array Slot) (hl : lv_has ls 5 [(0, .ref (a 0)), (1, .int (x1)), (2, .int (x2)), (3, .int (x3)), (4, .int (x4))]) (hP : va_P (dC, dI) vwCl (wM cs a M) H) (hD : va_D A (wM cs a M)) (hS : va_S A s.heap H locs) (hf : f_X8_bears_7 x1 x2 x3 x4 M K7 K68 = some res) : W p l e ({ frames := 3, cells := 0, slots := 0, locals := 70 }) s m args below meth c H locs 0 0 Q (F0 m 7 ls []) := by
  obtain ⟨hx, hb, hml, hown, hts⟩ := id C
  obtain ⟨hK, hN⟩ := id G
  unfold f_X8_bears_7 at hf
  refine lv_iload hx hb dX8_bears_7 (lv_at hl 4 rfl) ?_
  refine lv_aload_n hx hb dX8_bears_9 rfl (lv_at hl 0 rfl) ?_
  refine va_get (D := (dC, dI)) (ci := 8) (v := .ref (a 1)) (C := RX8) (T := TX8) (N := 20) hx hb hts in_X8_bears_X8 hown hK hP 0 rfl rfl 0 (by decide) (hts (.fieldLink RX8 7 "BackLoansModel" "now" "[I") (by decide +kernel)) (fun _ h9 => h9) rfl dX8_bears_10 ?_
  refine lv_iconst (v := 5) hx hb dX8_bears_13 (by decide) ?_
  obtain ⟨hi1, hf⟩ := gi_e hf
  refine va_iald hx hb hK hP 1 0 rfl rfl hi1 dX8_bears_14 ?_
  refine lv_icmp_ge (tgt := 68) hx hb dX8_bears_15 (by decide) (fun c2 => ?_) (fun c2 => ?_)
  · replace hf := it_t c2 hf
    exact hK68 M _ _ _ (lv_sub hl [0, 3] rfl) hP hD hS hf
  · replace hf := it_f c2 hf
    refine lv_iload_n hx hb dX8_bears_18 rfl (lv_at hl 2 rfl) ?_
    refine lv_iload hx hb dX8_bears_19 (lv_at hl 4 rfl) ?_
    refine lv_ishr hx hb dX8_bears_21 ?_
    refine lv_iconst (v := 1) hx hb dX8_bears_22 (by decide) ?_
    refine lv_iand hx hb dX8_bears_23 ?_
    refine lv_iconst (v := 1) hx hb dX8_bears_24 (by decide) ?_
    refine lv_icmp_ne (tgt := 62) hx hb dX8_bears_25 (by decide) (fun c3 => ?_) (fun c3 => ?_)
    · replace hf := it_f c3 hf
      exact b_X8_bears_62 C G hA hR x1 x2 x3 x4 M hK7 _ _ _ (lv_sub hl [0, 1, 2, 3, 4] rfl) hP hD hS hf
    · replace hf := it_t c3 hf
      refine lv_aload_n hx hb dX8_bears_28 rfl (lv_at hl 0 rfl) ?_
      refine va_get (D := (dC, dI)) (ci := 8) (v := .ref (a 2)) (C := RX8) (T := TX8) (N := 20) hx hb hts in_X8_bears_X8 hown hK hP 0 rfl rfl 1 (by decide) (hts (.fieldLink RX8 13 "BackLoansModel" "tried" "[I") (by decide +kernel)) (fun _ h9 => h9) rfl dX8_bears_29 ?_
      refine lv_iload_n hx hb dX8_bears_32 rfl (lv_at hl 1 rfl) ?_
      refine lv_aload_n hx hb dX8_bears_33 rfl (lv_at hl 0 rfl) ?_
      refine va_get (D := (dC, dI)) (ci := 8) (v := .ref (a 1)) (C := RX8) (T := TX8) (N := 20) hx hb hts in_X8_bears_X8 hown hK hP 0 rfl rfl 0 (by decide) (hts (.fieldLink RX8 7 "BackLoansModel" "now" "[I") (by decide +kernel)) (fun _ h9 => h9) rfl dX8_bears_34 ?_
      refine lv_bipush (v := 66) hx hb dX8_bears_37 (by decide) ?_
      refine lv_iconst (v := 2) hx hb dX8_bears_39 (by decide) ?_
      refine lv_iload hx hb dX8_bears_40 (lv_at hl 4 rfl) ?_
      refine lv_imul hx hb dX8_bears_42 ?_
      refine lv_iadd hx hb dX8_bears_43 ?_
      obtain ⟨hi4, hf⟩ := gi_e hf
      refine va_iald hx hb hK hP 1 0 rfl rfl hi4 dX8_bears_44 ?_
      refine lv_aload_n hx hb dX8_bears_45 rfl (lv_at hl 0 rfl) ?_
      refine va_get (D := (dC, dI)) (ci := 8) (v := .ref (a 1)) (C := RX8) (T := TX8) (N := 20) hx hb hts in_X8_bears_X8 hown hK hP 0 rfl rfl 0 (by decide) (hts (.fieldLink RX8 7 "BackLoansModel" "now" "[I") (by decide +kernel)) (fun _ h9 => h9) rfl dX8_bears_46 ?_
      refine lv_bipush (v := 66) hx hb dX8_bears_49 (by decide) ?_
      refine lv_iconst (v := 2) hx hb dX8_bears_51 (by decide) ?_
      refine lv_iload hx hb dX8_bears_52 (lv_at hl 4 rfl) ?_
      refine lv_imul hx hb dX8_bears_54 ?_
      refine lv_iadd hx hb dX8_bears_55 ?_
      refine lv_iconst (v := 1) hx hb dX8_bears_56 (by decide) ?_
      refine lv_iadd hx hb dX8_bears_57 ?_
      obtain ⟨hi5, hf⟩ := gi_e hf
      refine va_iald hx hb hK hP 1 0 rfl rfl hi5 dX8_bears_58 ?_
      obtain ⟨r59, hr59, hf⟩ := bn_e hf
      have hPc := hP.sub (ws' := (wA cs (a 2) 362 (M.2.2 1))) [2] rfl
      have hDc := hD.sub (ws' := (wA cs (a 2) 362 (M.2.2 1))) [2] (by decide) rfl
      have hFc := va_free (wc := (wA cs (a 2) 362 (M.2.2 1))) hD hS hA [2] rfl
      refine va_callv (va_runS (As := [.ref (a 2), .int (x1), .int (((M.2.2 0) (((66 : Int32) + ((2 : Int32) * x4))).toNatClampNeg)), .int (((M.2.2 0) ((((66 : Int32) + ((2 : Int32) * x4)) + (1 : Int32))).toNatClampNeg))]) (rest := []) C (c_X8_addLoan l dC dI cs (a 2) H.size (M.2.2 1) x1 ((M.2.2 0) (((66 : Int32) + ((2 : Int32) * x4))).toNatClampNeg) ((M.2.2 0) ((((66 : Int32) + ((2 : Int32) * x4)) + (1 : Int32))).toNatClampNeg) r59 hr59) (va_cwS 4 hts gX8_bears_X8_addLoan rfl rfl rfl (by decide +kernel) ⟨Nat.le_of_ble_eq_true rfl, Nat.le_of_ble_eq_true rfl⟩) ⟨(fun a U g mk q => ⟨q.1, q.2.1, q.2.2.1, GE.calling q.2.2.2.1, q.2.2.2.2⟩), (fun U hU hW => ⟨rfl, by rw [hU], by rw [hU]; exact hPc, GE.warm hW G, hDc.weaken (fun _ _ _ _ => trivial)⟩)⟩ rfl rfl hl.1 rfl (lv_room (Nat.le_of_ble_eq_true rfl)) dX8_bears_59 ⟨Nat.le_of_ble_eq_true rfl, Nat.le_of_ble_eq_true rfl⟩) hS (fun q _ h => hFc q h) hFc (fun u t H1 locs ht hvm hw hB hz1 hk1 hS => ?_)
      obtain rfl := hw.symm
      obtain ⟨hP1, hD1⟩ := hB
      rw [ht] at hP1
      obtain ⟨hP, hD⟩ := va_join (wr := [0, 1, 3, 4, 5, 6, 7, 8, 9, 10, 11].filterMap (fun i => ((wM cs a M))[i]?)) (w1 := (wA cs (a 2) 362 r59)) hP hD [2] [0, 1, 3, 4, 5, 6, 7, 8, 9, 10, 11] rfl rfl (by decide) (by decide) hk1 hFc hP1 hD1
      generalize H1 = H at hP hS ⊢
      have hP := hP.sub (ws' := (wM cs a (M.1, M.2.1, va_up M.2.2 1 (r59)))) [0, 1, 11, 2, 3, 4, 5, 6, 7, 8, 9, 10] rfl
      have hD := hD.sub (ws' := (wM cs a (M.1, M.2.1, va_up M.2.2 1 (r59)))) [0, 1, 11, 2, 3, 4, 5, 6, 7, 8, 9, 10] (by decide) rfl
      obtain ⟨M_59, hP, hD, hf⟩ := st_nm (ws := fun M_59 : Ms => (wM cs a M_59)) ((M.1, M.2.1, va_up M.2.2 1 (r59))) hP hD hf
      exact b_X8_bears_62 C G hA hR x1 x2 x3 x4 M_59 hK7 _ _ _ (lv_sub hl [0, 1, 2, 3, 4] rfl) hP hD hS hf
def l_X8_bears_7 (x1 : Int32) (x2 : Int32) (x3 : Int32) (K68 : Ms → Option (Int32 × Ms)) (n : Nat) (x4 : Int32) (M : Ms) : Option (Int32 × Ms) := itr (fun (k : Int32 × Ms → Option (Int32 × Ms)) (z : Int32 × Ms) => f_X8_bears_7 x1 x2 x3 z.1 z.2 (fun x4 M => k (x4, M)) K68) n (x4, M)
set_option maxHeartbeats 4000000 in
set_option maxRecDepth 100000 in
theorem w_X8_bears_7 {p : Program} {l : Launch} {e : Env} {s : State} {m : MethodId} {args : Array Value} {below : List Frame} {meth : Method} {c : Code} {Q : State → Prop} {dC : Nat → ClassId} {dI : Nat → Nat → Nat} {cs : Nat → ClassId} {A : Nat → Prop} {a : Nat → Nat} {res : Int32 × Ms} (C : CallFix p m c cX8_bears 5 s args wsX8_bears RX8) (G : GE dC dI cs s) (hA : ∀ q : Nat, s.heap.size ≤ q → A q) (hR : RTz p l e ({ frames := 3, cells := 0, slots := 0, locals := 70 }) s m args below meth c cX8_bears Q (dC, dI) A (fun u : Ms => (wM cs a u)) res) (x1 : Int32) (x2 : Int32) (x3 : Int32) {K68 : Ms → Option (Int32 × Ms)} (hK68 : ∀ (M : Ms) (H : Heap) (locs : List Loc) (ls : Array Slot), lv_has ls 5 [(0, .ref (a 0)), (3, .int (x3))] → va_P (dC, dI) vwCl (wM cs a M) H → va_D A (wM cs a M) → va_S A s.heap H locs → K68 M = some res → W p l e ({ frames := 3, cells := 0, slots := 0, locals := 70 }) s m args below meth c H locs 0 0 Q (F0 m 68 ls [])) : ∀ (n : Nat) (x4 : Int32) (M : Ms) (H : Heap) (locs : List Loc) (ls : Array Slot), lv_has ls 5 [(0, .ref (a 0)), (1, .int (x1)), (2, .int (x2)), (3, .int (x3)), (4, .int (x4))] → va_P (dC, dI) vwCl (wM cs a M) H → va_D A (wM cs a M) → va_S A s.heap H locs → l_X8_bears_7 x1 x2 x3 K68 n x4 M = some res → W p l e ({ frames := 3, cells := 0, slots := 0, locals := 70 }) s m args below meth c H locs 0 0 Q (F0 m 7 ls []) := by
  intro n
  induction n with
  | zero => intro x4 M H locs ls hl hP hD hS hf; exact absurd hf (by simp [l_X8_bears_7, itr])
  | succ n ih =>
    intro x4 M H locs ls hl hP hD hS hf
    replace hf : f_X8_bears_7 x1 x2 x3 x4 M (fun x4 M => l_X8_bears_7 x1 x2 x3 K68 n x4 M) K68 = some res := by rw [← hf]; unfold l_X8_bears_7; rw [itr_s]
    exact b_X8_bears_7 C G hA hR x1 x2 x3 x4 M (K7 := fun x4 M => l_X8_bears_7 x1 x2 x3 K68 n x4 M) (fun x4 M H locs ls hl hP hD hS hf => ih x4 M H locs ls hl hP hD hS hf) hK68 H locs ls hl hP hD hS hf
def f_X8_bears_71 (x3 : Int32) (x4 : Int32) (M : Ms) (K71 : Int32 → Ms → Option (Int32 × Ms)) (K93 : Ms → Option (Int32 × Ms)) : Option (Int32 × Ms) :=
  if (12 : Int32) ≤ x4 then (
    K93 M
  ) else (
    bn (f_X8_month (0 : Int32) (M.2.2 1)) fun r83 =>
    lett ((M.1, M.2.1, va_up M.2.2 1 (r83.2))) fun M_83 =>
    lett (x4 + 1) fun x4_87 =>
    K71 x4_87 M_83
  )
set_option maxHeartbeats 4000000 in
set_option maxRecDepth 100000 in
theorem b_X8_bears_71 {p : Program} {l : Launch} {e : Env} {s : State} {m : MethodId} {args : Array Value} {below : List Frame} {meth : Method} {c : Code} {Q : State → Prop} {dC : Nat → ClassId} {dI : Nat → Nat → Nat} {cs : Nat → ClassId} {A : Nat → Prop} {a : Nat → Nat} {res : Int32 × Ms} (C : CallFix p m c cX8_bears 5 s args wsX8_bears RX8) (G : GE dC dI cs s) (hA : ∀ q : Nat, s.heap.size ≤ q → A q) (hR : RTz p l e ({ frames := 3, cells := 0, slots := 0, locals := 70 }) s m args below meth c cX8_bears Q (dC, dI) A (fun u : Ms => (wM cs a u)) res) (x3 : Int32) (x4 : Int32) (M : Ms) {K71 : Int32 → Ms → Option (Int32 × Ms)} {K93 : Ms → Option (Int32 × Ms)} (hK71 : ∀ (x4 : Int32) (M : Ms) (H : Heap) (locs : List Loc) (ls : Array Slot), lv_has ls 5 [(0, .ref (a 0)), (3, .int (x3)), (4, .int (x4))] → va_P (dC, dI) vwCl (wM cs a M) H → va_D A (wM cs a M) → va_S A s.heap H locs → K71 x4 M = some res → W p l e ({ frames := 3, cells := 0, slots := 0, locals := 70 }) s m args below meth c H locs 0 0 Q (F0 m 71 ls [])) (hK93 : ∀ (M : Ms) (H : Heap) (locs : List Loc) (ls : Array Slot), lv_has ls 5 [(0, .ref (a 0)), (3, .int (x3))] → va_P (dC, dI) vwCl (wM cs a M) H → va_D A (wM cs a M) → va_S A s.heap H locs → K93 M = some res → W p l e ({ frames := 3, cells := 0, slots := 0, locals := 70 }) s m args below meth c H locs 0 0 Q (F0 m 93 ls [])) (H : Heap) (locs : List Loc) (ls : Array Slot) (hl : lv_has ls 5 [(0, .ref (a 0)), (3, .int (x3)), (4, .int (x4))]) (hP : va_P (dC, dI) vwCl (wM cs a M) H) (hD : va_D A (wM cs a M)) (hS : va_S A s.heap H locs) (hf : f_X8_bears_71 x3 x4 M K71 K93 = some res) : W p l e ({ frames := 3, cells := 0, slots := 0, locals := 70 }) s m args below meth c H locs 0 0 Q (F0 m 71 ls []) := by
  obtain ⟨hx, hb, hml, hown, hts⟩ := id C
  obtain ⟨hK, hN⟩ := id G
  unfold f_X8_bears_71 at hf
  refine lv_iload hx hb dX8_bears_71 (lv_at hl 2 rfl) ?_
  refine lv_bipush (v := 12) hx hb dX8_bears_73 (by decide) ?_
  refine lv_icmp_ge (tgt := 93) hx hb dX8_bears_75 (by decide) (fun c1 => ?_) (fun c1 => ?_)
  · replace hf := it_t c1 hf
    exact hK93 M _ _ _ (lv_sub hl [0, 1] rfl) hP hD hS hf
  · replace hf := it_f c1 hf
    refine lv_aload_n hx hb dX8_bears_78 rfl (lv_at hl 0 rfl) ?_
    refine va_get (D := (dC, dI)) (ci := 8) (v := .ref (a 2)) (C := RX8) (T := TX8) (N := 20) hx hb hts in_X8_bears_X8 hown hK hP 0 rfl rfl 1 (by decide) (hts (.fieldLink RX8 13 "BackLoansModel" "tried" "[I") (by decide +kernel)) (fun _ h9 => h9) rfl dX8_bears_79 ?_
    refine lv_iconst (v := 0) hx hb dX8_bears_82 (by decide) ?_
    obtain ⟨r83, hr83, hf⟩ := bn_e hf
    have hPc := hP.sub (ws' := (wA cs (a 2) 362 (M.2.2 1))) [2] rfl
    have hDc := hD.sub (ws' := (wA cs (a 2) 362 (M.2.2 1))) [2] (by decide) rfl
    have hFc := va_free (wc := (wA cs (a 2) 362 (M.2.2 1))) hD hS hA [2] rfl
    refine va_calli (va_runS (As := [.ref (a 2), .int ((0 : Int32))]) (rest := []) C (c_X8_month l dC dI cs (a 2) H.size (M.2.2 1) (0 : Int32) r83 hr83) (va_cwS 2 hts gX8_bears_X8_month rfl rfl rfl (by decide +kernel) ⟨Nat.le_of_ble_eq_true rfl, Nat.le_of_ble_eq_true rfl⟩) ⟨(fun a U g mk q => ⟨q.1, q.2.1, q.2.2.1, GE.calling q.2.2.2.1, q.2.2.2.2⟩), (fun U hU hW => ⟨rfl, by rw [hU], by rw [hU]; exact hPc, GE.warm hW G, hDc.weaken (fun _ _ _ _ => trivial)⟩)⟩ rfl rfl hl.1 rfl (lv_room (Nat.le_of_ble_eq_true rfl)) dX8_bears_83 ⟨Nat.le_of_ble_eq_true rfl, Nat.le_of_ble_eq_true rfl⟩) hS (fun q _ h => hFc q h) hFc (fun q u t H1 locs ht hvm hw hB hz1 hk1 hS => ?_)
    obtain ⟨rfl, rfl⟩ := hw
    obtain ⟨hP1, hD1⟩ := hB
    rw [ht] at hP1
    obtain ⟨hP, hD⟩ := va_join (wr := [0, 1, 3, 4, 5, 6, 7, 8, 9, 10, 11].filterMap (fun i => ((wM cs a M))[i]?)) (w1 := (wA cs (a 2) 362 r83.2)) hP hD [2] [0, 1, 3, 4, 5, 6, 7, 8, 9, 10, 11] rfl rfl (by decide) (by decide) hk1 hFc hP1 hD1
    generalize H1 = H at hP hS ⊢
    have hP := hP.sub (ws' := (wM cs a (M.1, M.2.1, va_up M.2.2 1 (r83.2)))) [0, 1, 11, 2, 3, 4, 5, 6, 7, 8, 9, 10] rfl
    have hD := hD.sub (ws' := (wM cs a (M.1, M.2.1, va_up M.2.2 1 (r83.2)))) [0, 1, 11, 2, 3, 4, 5, 6, 7, 8, 9, 10] (by decide) rfl
    obtain ⟨M_83, hP, hD, hf⟩ := st_nm (ws := fun M_83 : Ms => (wM cs a M_83)) ((M.1, M.2.1, va_up M.2.2 1 (r83.2))) hP hD hf
    refine lv_pop hx hb dX8_bears_86 rfl ?_
    obtain ⟨x4_87, ex4_87⟩ : ∃ y : Int32, y = (x4 + 1) := ⟨_, rfl⟩
    replace hf := lett_s ex4_87 hf
    refine lv_iinc (v := x4_87) (lv' := [(4, .int (x4_87)), (0, .ref (a 0)), (3, .int (x3))]) hx hb dX8_bears_87 hl (k := 2) rfl (by rw [ex4_87]; rfl) (by decide) rfl (fun ls hl => ?_)
    refine lv_goto (tgt := 71) hx hb dX8_bears_90 (by decide) ?_
    exact hK71 x4_87 M_83 _ _ _ (lv_sub hl [1, 2, 0] rfl) hP hD hS hf
def l_X8_bears_71 (x3 : Int32) (K93 : Ms → Option (Int32 × Ms)) (n : Nat) (x4 : Int32) (M : Ms) : Option (Int32 × Ms) := itr (fun (k : Int32 × Ms → Option (Int32 × Ms)) (z : Int32 × Ms) => f_X8_bears_71 x3 z.1 z.2 (fun x4 M => k (x4, M)) K93) n (x4, M)
set_option maxHeartbeats 4000000 in
set_option maxRecDepth 100000 in
theorem w_X8_bears_71 {p : Program} {l : Launch} {e : Env} {s : State} {m : MethodId} {args : Array Value} {below : List Frame} {meth : Method} {c : Code} {Q : State → Prop} {dC : Nat → ClassId} {dI : Nat → Nat → Nat} {cs : Nat → ClassId} {A : Nat → Prop} {a : Nat → Nat} {res : Int32 × Ms} (C : CallFix p m c cX8_bears 5 s args wsX8_bears RX8) (G : GE dC dI cs s) (hA : ∀ q : Nat, s.heap.size ≤ q → A q) (hR : RTz p l e ({ frames := 3, cells := 0, slots := 0, locals := 70 }) s m args below meth c cX8_bears Q (dC, dI) A (fun u : Ms => (wM cs a u)) res) (x3 : Int32) {K93 : Ms → Option (Int32 × Ms)} (hK93 : ∀ (M : Ms) (H : Heap) (locs : List Loc) (ls : Array Slot), lv_has ls 5 [(0, .ref (a 0)), (3, .int (x3))] → va_P (dC, dI) vwCl (wM cs a M) H → va_D A (wM cs a M) → va_S A s.heap H locs → K93 M = some res → W p l e ({ frames := 3, cells := 0, slots := 0, locals := 70 }) s m args below meth c H locs 0 0 Q (F0 m 93 ls [])) : ∀ (n : Nat) (x4 : Int32) (M : Ms) (H : Heap) (locs : List Loc) (ls : Array Slot), lv_has ls 5 [(0, .ref (a 0)), (3, .int (x3)), (4, .int (x4))] → va_P (dC, dI) vwCl (wM cs a M) H → va_D A (wM cs a M) → va_S A s.heap H locs → l_X8_bears_71 x3 K93 n x4 M = some res → W p l e ({ frames := 3, cells := 0, slots := 0, locals := 70 }) s m args below meth c H locs 0 0 Q (F0 m 71 ls []) := by
  intro n
  induction n with
  | zero => intro x4 M H locs ls hl hP hD hS hf; exact absurd hf (by simp [l_X8_bears_71, itr])
  | succ n ih =>
    intro x4 M H locs ls hl hP hD hS hf
    replace hf : f_X8_bears_71 x3 x4 M (fun x4 M => l_X8_bears_71 x3 K93 n x4 M) K93 = some res := by rw [← hf]; unfold l_X8_bears_71; rw [itr_s]
    exact b_X8_bears_71 C G hA hR x3 x4 M (K71 := fun x4 M => l_X8_bears_71 x3 K93 n x4 M) (fun x4 M H locs ls hl hP hD hS hf => ih x4 M H locs ls hl hP hD hS hf) hK93 H locs ls hl hP hD hS hf
def f_X8_bears_93 (x3 : Int32) (M : Ms)  : Option (Int32 × Ms) :=
  gi ((4 : Int32)) 362 <|
  bn (f_X8_many (2 : Int32) ((M.2.2 0) ((4 : Int32)).toNatClampNeg) (M.2.2 1)) fun r104 =>
  if x3 < r104 then (
    some ((0 : Int32), M)
  ) else (
    gi ((4 : Int32)) 362 <|
    bn (f_X8_many (2 : Int32) ((M.2.2 1) ((4 : Int32)).toNatClampNeg) (M.2.2 1)) fun r126 =>
    if r126 = r104 then (
      some ((1 : Int32), M)
    ) else (
      some ((0 : Int32), M)
    )
  )
set_option maxHeartbeats 4000000 in
set_option maxRecDepth 100000 in
theorem b_X8_bears_93 {p : Program} {l : Launch} {e : Env} {s : State} {m : MethodId} {args : Array Value} {below : List Frame} {meth : Method} {c : Code} {Q : State → Prop} {dC : Nat → ClassId} {dI : Nat → Nat → Nat} {cs : Nat → ClassId} {A : Nat → Prop} {a : Nat → Nat} {res : Int32 × Ms} (C : CallFix p m c cX8_bears 5 s args wsX8_bears RX8) (G : GE dC dI cs s) (hA : ∀ q : Nat, s.heap.size ≤ q → A q) (hR : RTz p l e ({ frames := 3, cells := 0, slots := 0, locals := 70 }) s m args below meth c cX8_bears Q (dC, dI) A (fun u : Ms => (wM cs a u)) res) (x3 : Int32) (M : Ms)   (H : Heap) (locs : List Loc) (ls : Array Slot) (hl : lv_has ls 5 [(0, .ref (a 0)), (3, .int (x3))]) (hP : va_P (dC, dI) vwCl (wM cs a M) H) (hD : va_D A (wM cs a M)) (hS : va_S A s.heap H locs) (hf : f_X8_bears_93 x3 M = some res) : W p l e ({ frames := 3, cells := 0, slots := 0, locals := 70 }) s m args below meth c H locs 0 0 Q (F0 m 93 ls []) := by
  obtain ⟨hx, hb, hml, hown, hts⟩ := id C
  obtain ⟨hK, hN⟩ := id G
  unfold f_X8_bears_93 at hf
  refine lv_aload_n hx hb dX8_bears_93 rfl (lv_at hl 0 rfl) ?_
  refine va_get (D := (dC, dI)) (ci := 8) (v := .ref (a 2)) (C := RX8) (T := TX8) (N := 20) hx hb hts in_X8_bears_X8 hown hK hP 0 rfl rfl 1 (by decide) (hts (.fieldLink RX8 13 "BackLoansModel" "tried" "[I") (by decide +kernel)) (fun _ h9 => h9) rfl dX8_bears_94 ?_
  refine lv_iconst (v := 2) hx hb dX8_bears_97 (by decide) ?_
  refine lv_aload_n hx hb dX8_bears_98 rfl (lv_at hl 0 rfl) ?_
  refine va_get (D := (dC, dI)) (ci := 8) (v := .ref (a 1)) (C := RX8) (T := TX8) (N := 20) hx hb hts in_X8_bears_X8 hown hK hP 0 rfl rfl 0 (by decide) (hts (.fieldLink RX8 7 "BackLoansModel" "now" "[I") (by decide +kernel)) (fun _ h9 => h9) rfl dX8_bears_99 ?_
  refine lv_iconst (v := 4) hx hb dX8_bears_102 (by decide) ?_
  obtain ⟨hi1, hf⟩ := gi_e hf
  refine va_iald hx hb hK hP 1 0 rfl rfl hi1 dX8_bears_103 ?_
  obtain ⟨r104, hr104, hf⟩ := bn_e hf
  have hPc := hP.sub (ws' := (wA cs (a 2) 362 (M.2.2 1))) [2] rfl
  refine vp_callSi (W.runS (As := [.ref (a 2), .int ((2 : Int32)), .int (((M.2.2 0) ((4 : Int32)).toNatClampNeg))]) (rest := []) C (c_X8_many l dC dI cs (a 2) (M.2.2 1) (2 : Int32) ((M.2.2 0) ((4 : Int32)).toNatClampNeg) r104 hr104) (va_cwS 3 hts gX8_bears_X8_many rfl rfl rfl (by decide +kernel) ⟨Nat.le_of_ble_eq_true rfl, Nat.le_of_ble_eq_true rfl⟩) ⟨(fun a U g mk q => ⟨q.1, q.2.1, GE.calling q.2.2⟩), (fun U hU hW => ⟨rfl, by rw [hU]; exact hPc, GE.warm hW G⟩)⟩ rfl rfl hl.1 rfl (lv_room (Nat.le_of_ble_eq_true rfl)) dX8_bears_104 ⟨Nat.le_of_ble_eq_true rfl, Nat.le_of_ble_eq_true rfl⟩) (fun qr104 hqr104 => ?_)
  obtain rfl := hqr104.symm
  refine lv_istore (lv' := [(4, .int (r104)), (0, .ref (a 0)), (3, .int (x3))]) hx hb dX8_bears_107 hl (by decide) rfl (fun ls hl => ?_)
  refine lv_iload hx hb dX8_bears_109 (lv_at hl 0 rfl) ?_
  refine lv_iload_n hx hb dX8_bears_111 rfl (lv_at hl 2 rfl) ?_
  refine lv_icmp_gt (tgt := 138) hx hb dX8_bears_112 (by decide) (fun c2 => ?_) (fun c2 => ?_)
  · replace hf := it_t c2 hf
    refine lv_iconst (v := 0) hx hb dX8_bears_138 (by decide) ?_
    exact hR _ _ _ _ _ _ dX8_bears_139 (by decide) hf hP hD hS
  · replace hf := it_f c2 hf
    refine lv_aload_n hx hb dX8_bears_115 rfl (lv_at hl 1 rfl) ?_
    refine va_get (D := (dC, dI)) (ci := 8) (v := .ref (a 2)) (C := RX8) (T := TX8) (N := 20) hx hb hts in_X8_bears_X8 hown hK hP 0 rfl rfl 1 (by decide) (hts (.fieldLink RX8 13 "BackLoansModel" "tried" "[I") (by decide +kernel)) (fun _ h9 => h9) rfl dX8_bears_116 ?_
    refine lv_iconst (v := 2) hx hb dX8_bears_119 (by decide) ?_
    refine lv_aload_n hx hb dX8_bears_120 rfl (lv_at hl 1 rfl) ?_
    refine va_get (D := (dC, dI)) (ci := 8) (v := .ref (a 2)) (C := RX8) (T := TX8) (N := 20) hx hb hts in_X8_bears_X8 hown hK hP 0 rfl rfl 1 (by decide) (hts (.fieldLink RX8 13 "BackLoansModel" "tried" "[I") (by decide +kernel)) (fun _ h9 => h9) rfl dX8_bears_121 ?_
    refine lv_iconst (v := 4) hx hb dX8_bears_124 (by decide) ?_
    obtain ⟨hi3, hf⟩ := gi_e hf
    refine va_iald hx hb hK hP 2 0 rfl rfl hi3 dX8_bears_125 ?_
    obtain ⟨r126, hr126, hf⟩ := bn_e hf
    have hPc := hP.sub (ws' := (wA cs (a 2) 362 (M.2.2 1))) [2] rfl
    refine vp_callSi (W.runS (As := [.ref (a 2), .int ((2 : Int32)), .int (((M.2.2 1) ((4 : Int32)).toNatClampNeg))]) (rest := []) C (c_X8_many l dC dI cs (a 2) (M.2.2 1) (2 : Int32) ((M.2.2 1) ((4 : Int32)).toNatClampNeg) r126 hr126) (va_cwS 3 hts gX8_bears_X8_many rfl rfl rfl (by decide +kernel) ⟨Nat.le_of_ble_eq_true rfl, Nat.le_of_ble_eq_true rfl⟩) ⟨(fun a U g mk q => ⟨q.1, q.2.1, GE.calling q.2.2⟩), (fun U hU hW => ⟨rfl, by rw [hU]; exact hPc, GE.warm hW G⟩)⟩ rfl rfl hl.1 rfl (lv_room (Nat.le_of_ble_eq_true rfl)) dX8_bears_126 ⟨Nat.le_of_ble_eq_true rfl, Nat.le_of_ble_eq_true rfl⟩) (fun qr126 hqr126 => ?_)
    obtain rfl := hqr126.symm
    refine lv_iload hx hb dX8_bears_129 (lv_at hl 0 rfl) ?_
    refine lv_icmp_ne (tgt := 138) hx hb dX8_bears_131 (by decide) (fun c4 => ?_) (fun c4 => ?_)
    · replace hf := it_f c4 hf
      refine lv_iconst (v := 0) hx hb dX8_bears_138 (by decide) ?_
      exact hR _ _ _ _ _ _ dX8_bears_139 (by decide) hf hP hD hS
    · replace hf := it_t c4 hf
      refine lv_iconst (v := 1) hx hb dX8_bears_134 (by decide) ?_
      refine lv_goto (tgt := 139) hx hb dX8_bears_135 (by decide) ?_
      exact hR _ _ _ _ _ _ dX8_bears_139 (by decide) hf hP hD hS
def f_X8_bears_68 (x3 : Int32) (M : Ms)  : Option (Int32 × Ms) :=
  lett (0 : Int32) fun x4_69 =>
  l_X8_bears_71 x3 (fun Mz => f_X8_bears_93 x3 Mz) FU x4_69 M
set_option maxHeartbeats 4000000 in
set_option maxRecDepth 100000 in
theorem b_X8_bears_68 {p : Program} {l : Launch} {e : Env} {s : State} {m : MethodId} {args : Array Value} {below : List Frame} {meth : Method} {c : Code} {Q : State → Prop} {dC : Nat → ClassId} {dI : Nat → Nat → Nat} {cs : Nat → ClassId} {A : Nat → Prop} {a : Nat → Nat} {res : Int32 × Ms} (C : CallFix p m c cX8_bears 5 s args wsX8_bears RX8) (G : GE dC dI cs s) (hA : ∀ q : Nat, s.heap.size ≤ q → A q) (hR : RTz p l e ({ frames := 3, cells := 0, slots := 0, locals := 70 }) s m args below meth c cX8_bears Q (dC, dI) A (fun u : Ms => (wM cs a u)) res) (x3 : Int32) (M : Ms)   (H : Heap) (locs : List Loc) (ls : Array Slot) (hl : lv_has ls 5 [(0, .ref (a 0)), (3, .int (x3))]) (hP : va_P (dC, dI) vwCl (wM cs a M) H) (hD : va_D A (wM cs a M)) (hS : va_S A s.heap H locs) (hf : f_X8_bears_68 x3 M = some res) : W p l e ({ frames := 3, cells := 0, slots := 0, locals := 70 }) s m args below meth c H locs 0 0 Q (F0 m 68 ls []) := by
  obtain ⟨hx, hb, hml, hown, hts⟩ := id C
  obtain ⟨hK, hN⟩ := id G
  unfold f_X8_bears_68 at hf
  refine lv_iconst (v := 0) hx hb dX8_bears_68 (by decide) ?_
  refine lv_topi (fun x4_69 ex4_69 => ?_)
  replace hf := lett_s ex4_69 hf
  refine lv_istore (lv' := [(4, .int (x4_69)), (0, .ref (a 0)), (3, .int (x3))]) hx hb dX8_bears_69 hl (by decide) rfl (fun ls hl => ?_)
  exact w_X8_bears_71 C G hA hR x3 (fun Mz H locs ls hl hP hD hS hf => b_X8_bears_93 C G hA hR x3 Mz _ _ _ hl hP hD hS hf) FU x4_69 M _ _ _ (lv_sub hl [1, 2, 0] rfl) hP hD hS hf
def f_X8_bears (x1 : Int32) (x2 : Int32) (x3 : Int32) (M : Ms) : Option (Int32 × Ms) :=
  bn (f_X8_tries M) fun r1 =>
  lett (0 : Int32) fun x4_5 =>
  l_X8_bears_7 x1 x2 x3 (fun Mz => f_X8_bears_68 x3 Mz) FU x4_5 r1
set_option maxHeartbeats 4000000 in
set_option maxRecDepth 100000 in
theorem c_X8_bears (l : Launch) (dC : Nat → ClassId) (dI : Nat → Nat → Nat) (cs : Nat → ClassId) (a : Nat → Nat) (sz : Nat) (M : Ms) (x1 : Int32) (x2 : Int32) (x3 : Int32) (res : Int32 × Ms) (hf : f_X8_bears x1 x2 x3 M = some res) : Met l yX8_bears wsX8_bears ({ frames := 3, cells := 0, slots := 0, locals := 70 }) (va_Pc [.ref (a 0), .int (x1), .int (x2), .int (x3)] (fun U => U.heap.size = sz ∧ va_P (dC, dI) vwCl (wM cs a M) U.heap ∧ GE dC dI cs U ∧ va_D (fun _ => True) (wM cs a M))) (va_Qi (fun r (u : Ms) => r = res.1 ∧ u = res.2 ∧ narrow .boolean (.int r) = .int r) (fun u t => va_P (dC, dI) vwCl ((fun u : Ms => (wM cs a u)) u) t.heap ∧ va_D (va_A (wM cs a M) sz) ((fun u : Ms => (wM cs a u)) u)) (va_A (wM cs a M) sz)) 0 0 (va_A (wM cs a M) sz) := by
  refine Met.ofW (cc := cX8_bears) (maxL := 5) (ret := (some .boolean)) (by decide) rfl ?_
  intro p e s m args below meth c s₁ Bd hml hv
  obtain ⟨rfl, hsz, hP, G, hD0⟩ := hv
  have hts := atoms_spec (ws := wsX8_bears) Bd.pre
  have hown : s.vm.findClass RX8 = some m.cls := findClass_of_methodNamed Bd.named
  have hlocks := Bd.notSynchronized
  have hx := Bd.exec
  have hb := Bd.bytes
  have hr := Bd.returns
  have C : CallFix p m c cX8_bears 5 s _ wsX8_bears RX8 := ⟨hx, hb, hml, hown, hts⟩
  obtain ⟨hK, hN⟩ := id G
  subst hsz
  have hD := hD0.self (sz := s.heap.size)
  generalize hAe : va_A (wM cs a M) s.heap.size = A at hD ⊢
  have hA : ∀ q : Nat, s.heap.size ≤ q → A q := fun q h => by rw [← hAe]; exact Or.inr h
  have hS : va_S A s.heap s.heap [] := va_S.rf
  have hR : RTz p l e ({ frames := 3, cells := 0, slots := 0, locals := 70 }) s m ([.ref (a 0), .int (x1), .int (x2), .int (x3)] : List Value).toArray below meth c cX8_bears (MQ below (va_Qi (fun r (u : Ms) => r = res.1 ∧ u = res.2 ∧ narrow .boolean (.int r) = .int r) (fun u t => va_P (dC, dI) vwCl ((fun u : Ms => (wM cs a u)) u) t.heap ∧ va_D A ((fun u : Ms => (wM cs a u)) u)) A) ([.ref (a 0), .int (x1), .int (x2), .int (x3)] : List Value).toArray s 0 0 A) (dC, dI) A (fun u : Ms => (wM cs a u)) res := fun H locs pc ls r u dd hn h hP hD hS => W.zret hx hb hr hn (fun t ht hW => ⟨⟨r, u, rfl, by cases h; exact ⟨rfl, rfl, hn⟩, by rw [ht]; exact hP, hD⟩, hS.F ht⟩) hS.2.2 dd
  have hl := lv_entry ([.ref (a 0), .int (x1), .int (x2), .int (x3)]) (n := 5) (Nat.le_of_ble_eq_true rfl)
  rw [lg_entry_eq]
  generalize (lg_sl ([.ref (a 0), .int (x1), .int (x2), .int (x3)]) ++ List.replicate (5 - (lg_sl ([.ref (a 0), .int (x1), .int (x2), .int (x3)])).length) Slot.unset).toArray = ls at hl ⊢
  have hl : lv_has ls 5 [(0, .ref (a 0)), (1, .int (x1)), (2, .int (x2)), (3, .int (x3))] := hl
  unfold f_X8_bears at hf
  refine lv_aload_n hx hb dX8_bears_0 rfl (lv_at hl 0 rfl) ?_
  obtain ⟨r1, hr1, hf⟩ := bn_e hf
  have hPc := hP.sub (ws' := (wM cs a M)) [0, 1, 2, 3, 4, 5, 6, 7, 8, 9, 10, 11] rfl
  have hDc := hD.sub (ws' := (wM cs a M)) [0, 1, 2, 3, 4, 5, 6, 7, 8, 9, 10, 11] (by decide) rfl
  have hFc := va_free (wc := (wM cs a M)) hD hS hA [0, 1, 2, 3, 4, 5, 6, 7, 8, 9, 10, 11] rfl
  refine va_callv (va_runV (As := []) (rest := []) C (c_X8_tries l dC dI cs a s.heap.size M r1 hr1) (cwV 0 hts gX8_bears_X8_tries rfl rfl rfl (by decide +kernel) ⟨Nat.le_of_ble_eq_true rfl, Nat.le_of_ble_eq_true rfl⟩) ⟨(fun a U g mk q => ⟨q.1, q.2.1, q.2.2.1, GE.calling q.2.2.2.1, q.2.2.2.2⟩), va_recv hK hPc (ci := 8) (q0 := 0) rfl rfl, (fun U hU hW => ⟨rfl, by rw [hU], by rw [hU]; exact hPc, GE.warm hW G, hDc.weaken (fun _ _ _ _ => trivial)⟩)⟩ rfl rfl hl.1 rfl (lv_room (Nat.le_of_ble_eq_true rfl)) dX8_bears_1 ⟨Nat.le_of_ble_eq_true rfl, Nat.le_of_ble_eq_true rfl⟩) hS (fun q _ h => hFc q h) hFc (fun u t H1 locs ht hvm hw hB hz1 hk1 hS => ?_)
  obtain rfl := hw.symm
  obtain ⟨hP1, hD1⟩ := hB
  rw [ht] at hP1
  obtain ⟨hP, hD⟩ := va_join (wr := []) (w1 := (wM cs a r1)) hP hD [0, 1, 2, 3, 4, 5, 6, 7, 8, 9, 10, 11] [] rfl rfl (by decide) (by decide) hk1 hFc hP1 hD1
  generalize H1 = H at hP hS ⊢
  have hP := hP.sub (ws' := (wM cs a r1)) [0, 1, 2, 3, 4, 5, 6, 7, 8, 9, 10, 11] rfl
  have hD := hD.sub (ws' := (wM cs a r1)) [0, 1, 2, 3, 4, 5, 6, 7, 8, 9, 10, 11] (by decide) rfl
  refine lv_iconst (v := 0) hx hb dX8_bears_4 (by decide) ?_
  refine lv_topi (fun x4_5 ex4_5 => ?_)
  replace hf := lett_s ex4_5 hf
  refine lv_istore (lv' := [(4, .int (x4_5)), (0, .ref (a 0)), (1, .int (x1)), (2, .int (x2)), (3, .int (x3))]) hx hb dX8_bears_5 hl (by decide) rfl (fun ls hl => ?_)
  exact w_X8_bears_7 C G hA hR x1 x2 x3 (fun Mz H locs ls hl hP hD hS hf => b_X8_bears_68 C G hA hR x3 Mz _ _ _ hl hP hD hS hf) FU x4_5 r1 _ _ _ (lv_sub hl [1, 2, 3, 4, 0] rfl) hP hD hS hf

theorem in_X8_gained_X8 : ∀ w ∈ wsX80, w ∈ wsX8_gained := by decide +kernel
def f_X8_gained_4 (x1 : Int32) (x2 : Int32) (x3 : Int32) (M : Ms) (K4 : Int32 → Int32 → Option Int32) : Option Int32 :=
  gi ((5 : Int32)) 362 <|
  if ((M.2.2 0) ((5 : Int32)).toNatClampNeg) ≤ x3 then (
    some x2
  ) else (
    gi (((66 : Int32) + ((2 : Int32) * x3))) 362 <|
    gi ((((66 : Int32) + ((2 : Int32) * x3)) + (1 : Int32))) 362 <|
    gi ((1 : Int32)) 362 <|
    lett (x2 + (((x1 >>> (x3 &&& 31)) &&& (1 : Int32)) * (((((M.2.2 0) (((66 : Int32) + ((2 : Int32) * x3))).toNatClampNeg) * ((M.2.2 0) ((((66 : Int32) + ((2 : Int32) * x3)) + (1 : Int32))).toNatClampNeg)) * ((M.2.2 0) ((1 : Int32)).toNatClampNeg)) / (100 : Int32)))) fun x2_57 =>
    lett (x3 + 1) fun x3_58 =>
    K4 x2_57 x3_58
  )
set_option maxHeartbeats 4000000 in
set_option maxRecDepth 100000 in
theorem b_X8_gained_4 {p : Program} {l : Launch} {e : Env} {s : State} {m : MethodId} {args : Array Value} {below : List Frame} {meth : Method} {c : Code} {Q : State → Prop} {dC : Nat → ClassId} {dI : Nat → Nat → Nat} {cs : Nat → ClassId} {a : Nat → Nat} {res : Int32} (C : CallFix p m c cX8_gained 4 s args wsX8_gained RX8) (G : GE dC dI cs s) (hR : RPi p l e ({ frames := 0, cells := 0, slots := 0, locals := 0 }) s m args below meth c cX8_gained Q res) {M : Ms} (hP : va_P (dC, dI) vwCl (wM cs a M) s.heap) (x1 : Int32) (x2 : Int32) (x3 : Int32) (_ : Ms) {K4 : Int32 → Int32 → Option Int32} (hK4 : ∀ (x2 : Int32) (x3 : Int32) (ls : Array Slot), lv_has ls 4 [(0, .ref (a 0)), (1, .int (x1)), (2, .int (x2)), (3, .int (x3))] → K4 x2 x3 = some res → W p l e ({ frames := 0, cells := 0, slots := 0, locals := 0 }) s m args below meth c s.heap [] 0 0 Q (F0 m 4 ls [])) (ls : Array Slot) (hl : lv_has ls 4 [(0, .ref (a 0)), (1, .int (x1)), (2, .int (x2)), (3, .int (x3))]) (hf : f_X8_gained_4 x1 x2 x3 M K4 = some res) : W p l e ({ frames := 0, cells := 0, slots := 0, locals := 0 }) s m args below meth c s.heap [] 0 0 Q (F0 m 4 ls []) := by
  obtain ⟨hx, hb, hml, hown, hts⟩ := id C
  obtain ⟨hK, hN⟩ := id G
  unfold f_X8_gained_4 at hf
  refine lv_iload_n hx hb dX8_gained_4 rfl (lv_at hl 3 rfl) ?_
  refine lv_aload_n hx hb dX8_gained_5 rfl (lv_at hl 0 rfl) ?_
  refine va_get (D := (dC, dI)) (ci := 8) (v := .ref (a 1)) (C := RX8) (T := TX8) (N := 20) hx hb hts in_X8_gained_X8 hown hK hP 0 rfl rfl 0 (by decide) (hts (.fieldLink RX8 7 "BackLoansModel" "now" "[I") (by decide +kernel)) (fun _ h9 => h9) rfl dX8_gained_6 ?_
  refine lv_iconst (v := 5) hx hb dX8_gained_9 (by decide) ?_
  obtain ⟨hi1, hf⟩ := gi_e hf
  refine va_iald hx hb hK hP 1 0 rfl rfl hi1 dX8_gained_10 ?_
  refine lv_icmp_ge (tgt := 64) hx hb dX8_gained_11 (by decide) (fun c2 => ?_) (fun c2 => ?_)
  · replace hf := it_t c2 hf
    refine lv_iload_n hx hb dX8_gained_64 rfl (lv_at hl 2 rfl) ?_
    exact hR _ _ _ dX8_gained_65 hf
  · replace hf := it_f c2 hf
    refine lv_iload_n hx hb dX8_gained_14 rfl (lv_at hl 2 rfl) ?_
    refine lv_iload_n hx hb dX8_gained_15 rfl (lv_at hl 1 rfl) ?_
    refine lv_iload_n hx hb dX8_gained_16 rfl (lv_at hl 3 rfl) ?_
    refine lv_ishr hx hb dX8_gained_17 ?_
    refine lv_iconst (v := 1) hx hb dX8_gained_18 (by decide) ?_
    refine lv_iand hx hb dX8_gained_19 ?_
    refine lv_aload_n hx hb dX8_gained_20 rfl (lv_at hl 0 rfl) ?_
    refine va_get (D := (dC, dI)) (ci := 8) (v := .ref (a 1)) (C := RX8) (T := TX8) (N := 20) hx hb hts in_X8_gained_X8 hown hK hP 0 rfl rfl 0 (by decide) (hts (.fieldLink RX8 7 "BackLoansModel" "now" "[I") (by decide +kernel)) (fun _ h9 => h9) rfl dX8_gained_21 ?_
    refine lv_bipush (v := 66) hx hb dX8_gained_24 (by decide) ?_
    refine lv_iconst (v := 2) hx hb dX8_gained_26 (by decide) ?_
    refine lv_iload_n hx hb dX8_gained_27 rfl (lv_at hl 3 rfl) ?_
    refine lv_imul hx hb dX8_gained_28 ?_
    refine lv_iadd hx hb dX8_gained_29 ?_
    obtain ⟨hi3, hf⟩ := gi_e hf
    refine va_iald hx hb hK hP 1 0 rfl rfl hi3 dX8_gained_30 ?_
    refine lv_aload_n hx hb dX8_gained_31 rfl (lv_at hl 0 rfl) ?_
    refine va_get (D := (dC, dI)) (ci := 8) (v := .ref (a 1)) (C := RX8) (T := TX8) (N := 20) hx hb hts in_X8_gained_X8 hown hK hP 0 rfl rfl 0 (by decide) (hts (.fieldLink RX8 7 "BackLoansModel" "now" "[I") (by decide +kernel)) (fun _ h9 => h9) rfl dX8_gained_32 ?_
    refine lv_bipush (v := 66) hx hb dX8_gained_35 (by decide) ?_
    refine lv_iconst (v := 2) hx hb dX8_gained_37 (by decide) ?_
    refine lv_iload_n hx hb dX8_gained_38 rfl (lv_at hl 3 rfl) ?_
    refine lv_imul hx hb dX8_gained_39 ?_
    refine lv_iadd hx hb dX8_gained_40 ?_
    refine lv_iconst (v := 1) hx hb dX8_gained_41 (by decide) ?_
    refine lv_iadd hx hb dX8_gained_42 ?_
    obtain ⟨hi4, hf⟩ := gi_e hf
    refine va_iald hx hb hK hP 1 0 rfl rfl hi4 dX8_gained_43 ?_
    refine lv_imul hx hb dX8_gained_44 ?_
    refine lv_aload_n hx hb dX8_gained_45 rfl (lv_at hl 0 rfl) ?_
    refine va_get (D := (dC, dI)) (ci := 8) (v := .ref (a 1)) (C := RX8) (T := TX8) (N := 20) hx hb hts in_X8_gained_X8 hown hK hP 0 rfl rfl 0 (by decide) (hts (.fieldLink RX8 7 "BackLoansModel" "now" "[I") (by decide +kernel)) (fun _ h9 => h9) rfl dX8_gained_46 ?_
    refine lv_iconst (v := 1) hx hb dX8_gained_49 (by decide) ?_
    obtain ⟨hi5, hf⟩ := gi_e hf
    refine va_iald hx hb hK hP 1 0 rfl rfl hi5 dX8_gained_50 ?_
    refine lv_imul hx hb dX8_gained_51 ?_
    refine lv_bipush (v := 100) hx hb dX8_gained_52 (by decide) ?_
    refine lv_idiv hx hb dX8_gained_54 (by decide) ?_
    refine lv_imul hx hb dX8_gained_55 ?_
    refine lv_iadd hx hb dX8_gained_56 ?_
    refine lv_topi (fun x2_57 ex2_57 => ?_)
    replace hf := lett_s ex2_57 hf
    refine lv_istore_n (lv' := [(2, .int (x2_57)), (0, .ref (a 0)), (1, .int (x1)), (3, .int (x3))]) hx hb dX8_gained_57 rfl hl (by decide) rfl (fun ls hl => ?_)
    obtain ⟨x3_58, ex3_58⟩ : ∃ y : Int32, y = (x3 + 1) := ⟨_, rfl⟩
    replace hf := lett_s ex3_58 hf
    refine lv_iinc (v := x3_58) (lv' := [(3, .int (x3_58)), (2, .int (x2_57)), (0, .ref (a 0)), (1, .int (x1))]) hx hb dX8_gained_58 hl (k := 3) rfl (by rw [ex3_58]; rfl) (by decide) rfl (fun ls hl => ?_)
    refine lv_goto (tgt := 4) hx hb dX8_gained_61 (by decide) ?_
    exact hK4 x2_57 x3_58 _ (lv_sub hl [2, 3, 1, 0] rfl) hf
def l_X8_gained_4 (x1 : Int32) (M : Ms)  (n : Nat) (x2 : Int32) (x3 : Int32) : Option Int32 := itr (fun (k : Int32 × Int32 → Option Int32) (z : Int32 × Int32) => f_X8_gained_4 x1 z.1 z.2 M (fun x2 x3 => k (x2, x3))) n (x2, x3)
set_option maxHeartbeats 4000000 in
set_option maxRecDepth 100000 in
theorem w_X8_gained_4 {p : Program} {l : Launch} {e : Env} {s : State} {m : MethodId} {args : Array Value} {below : List Frame} {meth : Method} {c : Code} {Q : State → Prop} {dC : Nat → ClassId} {dI : Nat → Nat → Nat} {cs : Nat → ClassId} {a : Nat → Nat} {res : Int32} (C : CallFix p m c cX8_gained 4 s args wsX8_gained RX8) (G : GE dC dI cs s) (hR : RPi p l e ({ frames := 0, cells := 0, slots := 0, locals := 0 }) s m args below meth c cX8_gained Q res) {M : Ms} (hP : va_P (dC, dI) vwCl (wM cs a M) s.heap) (x1 : Int32) (_ : Ms)   : ∀ (n : Nat) (x2 : Int32) (x3 : Int32) (ls : Array Slot), lv_has ls 4 [(0, .ref (a 0)), (1, .int (x1)), (2, .int (x2)), (3, .int (x3))] → l_X8_gained_4 x1 M n x2 x3 = some res → W p l e ({ frames := 0, cells := 0, slots := 0, locals := 0 }) s m args below meth c s.heap [] 0 0 Q (F0 m 4 ls []) := by
  intro n
  induction n with
  | zero => intro x2 x3 ls hl hf; exact absurd hf (by simp [l_X8_gained_4, itr])
  | succ n ih =>
    intro x2 x3 ls hl hf
    replace hf : f_X8_gained_4 x1 x2 x3 M (fun x2 x3 => l_X8_gained_4 x1 M n x2 x3) = some res := by rw [← hf]; unfold l_X8_gained_4; rw [itr_s]
    exact b_X8_gained_4 C G hR hP x1 x2 x3 M (K4 := fun x2 x3 => l_X8_gained_4 x1 M n x2 x3) (fun x2 x3 ls hl hf => ih x2 x3 ls hl hf) ls hl hf
def f_X8_gained (x1 : Int32) (M : Ms) : Option Int32 :=
  lett (0 : Int32) fun x2_1 =>
  lett (0 : Int32) fun x3_3 =>
  l_X8_gained_4 x1 M FU x2_1 x3_3
set_option maxHeartbeats 4000000 in
set_option maxRecDepth 100000 in
theorem c_X8_gained (l : Launch) (dC : Nat → ClassId) (dI : Nat → Nat → Nat) (cs : Nat → ClassId) (a : Nat → Nat) (M : Ms) (x1 : Int32) (res : Int32) (hf : f_X8_gained x1 M = some res) : Met l yX8_gained wsX8_gained ({ frames := 0, cells := 0, slots := 0, locals := 0 }) (va_Pc [.ref (a 0), .int (x1)] (fun U => va_P (dC, dI) vwCl (wM cs a M) U.heap ∧ GE dC dI cs U)) (vp_Si (fun r => r = res)) 0 0 (fun _ => False) := by
  refine Met.ofW (cc := cX8_gained) (maxL := 4) (ret := (some .int)) (by decide) rfl ?_
  intro p e s m args below meth c s₁ Bd hml hv
  obtain ⟨rfl, hP, G⟩ := hv
  have hts := atoms_spec (ws := wsX8_gained) Bd.pre
  have hown : s.vm.findClass RX8 = some m.cls := findClass_of_methodNamed Bd.named
  have hlocks := Bd.notSynchronized
  have hx := Bd.exec
  have hb := Bd.bytes
  have hr := Bd.returns
  have C : CallFix p m c cX8_gained 4 s _ wsX8_gained RX8 := ⟨hx, hb, hml, hown, hts⟩
  obtain ⟨hK, hN⟩ := id G
  have hR : RPi p l e ({ frames := 0, cells := 0, slots := 0, locals := 0 }) s m ([.ref (a 0), .int (x1)] : List Value).toArray below meth c cX8_gained (MQ below (vp_Si (fun r => r = res)) ([.ref (a 0), .int (x1)] : List Value).toArray s 0 0 (fun _ => False)) res := fun pc ls r dd h => W.iret hx hb hr (fun t ht hW => ⟨r, rfl, Option.some.inj h, ht⟩) (fun q hq => by cases hq) dd
  have hl := lv_entry ([.ref (a 0), .int (x1)]) (n := 4) (Nat.le_of_ble_eq_true rfl)
  rw [lg_entry_eq]
  generalize (lg_sl ([.ref (a 0), .int (x1)]) ++ List.replicate (4 - (lg_sl ([.ref (a 0), .int (x1)])).length) Slot.unset).toArray = ls at hl ⊢
  have hl : lv_has ls 4 [(0, .ref (a 0)), (1, .int (x1))] := hl
  unfold f_X8_gained at hf
  refine lv_iconst (v := 0) hx hb dX8_gained_0 (by decide) ?_
  refine lv_topi (fun x2_1 ex2_1 => ?_)
  replace hf := lett_s ex2_1 hf
  refine lv_istore_n (lv' := [(2, .int (x2_1)), (0, .ref (a 0)), (1, .int (x1))]) hx hb dX8_gained_1 rfl hl (by decide) rfl (fun ls hl => ?_)
  refine lv_iconst (v := 0) hx hb dX8_gained_2 (by decide) ?_
  refine lv_topi (fun x3_3 ex3_3 => ?_)
  replace hf := lett_s ex3_3 hf
  refine lv_istore_n (lv' := [(3, .int (x3_3)), (2, .int (x2_1)), (0, .ref (a 0)), (1, .int (x1))]) hx hb dX8_gained_3 rfl hl (by decide) rfl (fun ls hl => ?_)
  exact w_X8_gained_4 C G hR hP x1 M FU x2_1 x3_3 _ (lv_sub hl [2, 3, 1, 0] rfl) hf

def f_X8_ones_4 (x0 : Int32) (x1 : Int32) (x2 : Int32) (K4 : Int32 → Int32 → Option Int32) : Option Int32 :=
  if (8 : Int32) ≤ x2 then (
    some x1
  ) else (
    lett (x1 + ((x0 >>> (x2 &&& 31)) &&& (1 : Int32))) fun x1_17 =>
    lett (x2 + 1) fun x2_18 =>
    K4 x1_17 x2_18
  )
set_option maxHeartbeats 4000000 in
set_option maxRecDepth 100000 in
theorem b_X8_ones_4 {p : Program} {l : Launch} {e : Env} {s : State} {m : MethodId} {args : Array Value} {below : List Frame} {meth : Method} {c : Code} {Q : State → Prop} {dC : Nat → ClassId} {dI : Nat → Nat → Nat} {cs : Nat → ClassId} {res : Int32} (C : CallFix p m c cX8_ones 3 s args wsX8_ones RX8) (G : GE dC dI cs s) (hR : RPi p l e ({ frames := 0, cells := 0, slots := 0, locals := 0 }) s m args below meth c cX8_ones Q res) (hP : va_P (dC, dI) vwCl ([] : va_W) s.heap) (x0 : Int32) (x1 : Int32) (x2 : Int32)  {K4 : Int32 → Int32 → Option Int32} (hK4 : ∀ (x1 : Int32) (x2 : Int32) (ls : Array Slot), lv_has ls 3 [(0, .int (x0)), (1, .int (x1)), (2, .int (x2))] → K4 x1 x2 = some res → W p l e ({ frames := 0, cells := 0, slots := 0, locals := 0 }) s m args below meth c s.heap [] 0 0 Q (F0 m 4 ls [])) (ls : Array Slot) (hl : lv_has ls 3 [(0, .int (x0)), (1, .int (x1)), (2, .int (x2))]) (hf : f_X8_ones_4 x0 x1 x2 K4 = some res) : W p l e ({ frames := 0, cells := 0, slots := 0, locals := 0 }) s m args below meth c s.heap [] 0 0 Q (F0 m 4 ls []) := by
  obtain ⟨hx, hb, hml, hown, hts⟩ := id C
  obtain ⟨hK, hN⟩ := id G
  unfold f_X8_ones_4 at hf
  refine lv_iload_n hx hb dX8_ones_4 rfl (lv_at hl 2 rfl) ?_
  refine lv_bipush (v := 8) hx hb dX8_ones_5 (by decide) ?_
  refine lv_icmp_ge (tgt := 24) hx hb dX8_ones_7 (by decide) (fun c1 => ?_) (fun c1 => ?_)
  · replace hf := it_t c1 hf
    refine lv_iload_n hx hb dX8_ones_24 rfl (lv_at hl 1 rfl) ?_
    exact hR _ _ _ dX8_ones_25 hf
  · replace hf := it_f c1 hf
    refine lv_iload_n hx hb dX8_ones_10 rfl (lv_at hl 1 rfl) ?_
    refine lv_iload_n hx hb dX8_ones_11 rfl (lv_at hl 0 rfl) ?_
    refine lv_iload_n hx hb dX8_ones_12 rfl (lv_at hl 2 rfl) ?_
    refine lv_ishr hx hb dX8_ones_13 ?_
    refine lv_iconst (v := 1) hx hb dX8_ones_14 (by decide) ?_
    refine lv_iand hx hb dX8_ones_15 ?_
    refine lv_iadd hx hb dX8_ones_16 ?_
    refine lv_topi (fun x1_17 ex1_17 => ?_)
    replace hf := lett_s ex1_17 hf
    refine lv_istore_n (lv' := [(1, .int (x1_17)), (0, .int (x0)), (2, .int (x2))]) hx hb dX8_ones_17 rfl hl (by decide) rfl (fun ls hl => ?_)
    obtain ⟨x2_18, ex2_18⟩ : ∃ y : Int32, y = (x2 + 1) := ⟨_, rfl⟩
    replace hf := lett_s ex2_18 hf
    refine lv_iinc (v := x2_18) (lv' := [(2, .int (x2_18)), (1, .int (x1_17)), (0, .int (x0))]) hx hb dX8_ones_18 hl (k := 2) rfl (by rw [ex2_18]; rfl) (by decide) rfl (fun ls hl => ?_)
    refine lv_goto (tgt := 4) hx hb dX8_ones_21 (by decide) ?_
    exact hK4 x1_17 x2_18 _ (lv_sub hl [2, 1, 0] rfl) hf
def l_X8_ones_4 (x0 : Int32)  (n : Nat) (x1 : Int32) (x2 : Int32) : Option Int32 := itr (fun (k : Int32 × Int32 → Option Int32) (z : Int32 × Int32) => f_X8_ones_4 x0 z.1 z.2 (fun x1 x2 => k (x1, x2))) n (x1, x2)
set_option maxHeartbeats 4000000 in
set_option maxRecDepth 100000 in
theorem w_X8_ones_4 {p : Program} {l : Launch} {e : Env} {s : State} {m : MethodId} {args : Array Value} {below : List Frame} {meth : Method} {c : Code} {Q : State → Prop} {dC : Nat → ClassId} {dI : Nat → Nat → Nat} {cs : Nat → ClassId} {res : Int32} (C : CallFix p m c cX8_ones 3 s args wsX8_ones RX8) (G : GE dC dI cs s) (hR : RPi p l e ({ frames := 0, cells := 0, slots := 0, locals := 0 }) s m args below meth c cX8_ones Q res) (hP : va_P (dC, dI) vwCl ([] : va_W) s.heap) (x0 : Int32)    : ∀ (n : Nat) (x1 : Int32) (x2 : Int32) (ls : Array Slot), lv_has ls 3 [(0, .int (x0)), (1, .int (x1)), (2, .int (x2))] → l_X8_ones_4 x0 n x1 x2 = some res → W p l e ({ frames := 0, cells := 0, slots := 0, locals := 0 }) s m args below meth c s.heap [] 0 0 Q (F0 m 4 ls []) := by
  intro n
  induction n with
  | zero => intro x1 x2 ls hl hf; exact absurd hf (by simp [l_X8_ones_4, itr])
  | succ n ih =>
    intro x1 x2 ls hl hf
    replace hf : f_X8_ones_4 x0 x1 x2 (fun x1 x2 => l_X8_ones_4 x0 n x1 x2) = some res := by rw [← hf]; unfold l_X8_ones_4; rw [itr_s]
    exact b_X8_ones_4 C G hR hP x0 x1 x2 (K4 := fun x1 x2 => l_X8_ones_4 x0 n x1 x2) (fun x1 x2 ls hl hf => ih x1 x2 ls hl hf) ls hl hf
def f_X8_ones (x0 : Int32)  : Option Int32 :=
  lett (0 : Int32) fun x1_1 =>
  lett (0 : Int32) fun x2_3 =>
  l_X8_ones_4 x0 FU x1_1 x2_3
set_option maxHeartbeats 4000000 in
set_option maxRecDepth 100000 in
theorem c_X8_ones (l : Launch) (dC : Nat → ClassId) (dI : Nat → Nat → Nat) (cs : Nat → ClassId)  (x0 : Int32) (res : Int32) (hf : f_X8_ones x0 = some res) : Met l yX8_ones wsX8_ones ({ frames := 0, cells := 0, slots := 0, locals := 0 }) (va_Pc [.int (x0)] (fun U => va_P (dC, dI) vwCl ([] : va_W) U.heap ∧ GE dC dI cs U)) (vp_Si (fun r => r = res)) 0 0 (fun _ => False) := by
  refine Met.ofW (cc := cX8_ones) (maxL := 3) (ret := (some .int)) (by decide) rfl ?_
  intro p e s m args below meth c s₁ Bd hml hv
  obtain ⟨rfl, hP, G⟩ := hv
  have hts := atoms_spec (ws := wsX8_ones) Bd.pre
  have hown : s.vm.findClass RX8 = some m.cls := findClass_of_methodNamed Bd.named
  have hlocks := Bd.notSynchronized
  have hx := Bd.exec
  have hb := Bd.bytes
  have hr := Bd.returns
  have C : CallFix p m c cX8_ones 3 s _ wsX8_ones RX8 := ⟨hx, hb, hml, hown, hts⟩
  obtain ⟨hK, hN⟩ := id G
  have hR : RPi p l e ({ frames := 0, cells := 0, slots := 0, locals := 0 }) s m ([.int (x0)] : List Value).toArray below meth c cX8_ones (MQ below (vp_Si (fun r => r = res)) ([.int (x0)] : List Value).toArray s 0 0 (fun _ => False)) res := fun pc ls r dd h => W.iret hx hb hr (fun t ht hW => ⟨r, rfl, Option.some.inj h, ht⟩) (fun q hq => by cases hq) dd
  have hl := lv_entry ([.int (x0)]) (n := 3) (Nat.le_of_ble_eq_true rfl)
  rw [lg_entry_eq]
  generalize (lg_sl ([.int (x0)]) ++ List.replicate (3 - (lg_sl ([.int (x0)])).length) Slot.unset).toArray = ls at hl ⊢
  have hl : lv_has ls 3 [(0, .int (x0))] := hl
  unfold f_X8_ones at hf
  refine lv_iconst (v := 0) hx hb dX8_ones_0 (by decide) ?_
  refine lv_topi (fun x1_1 ex1_1 => ?_)
  replace hf := lett_s ex1_1 hf
  refine lv_istore_n (lv' := [(1, .int (x1_1)), (0, .int (x0))]) hx hb dX8_ones_1 rfl hl (by decide) rfl (fun ls hl => ?_)
  refine lv_iconst (v := 0) hx hb dX8_ones_2 (by decide) ?_
  refine lv_topi (fun x2_3 ex2_3 => ?_)
  replace hf := lett_s ex2_3 hf
  refine lv_istore_n (lv' := [(2, .int (x2_3)), (1, .int (x1_1)), (0, .int (x0))]) hx hb dX8_ones_3 rfl hl (by decide) rfl (fun ls hl => ?_)
  exact w_X8_ones_4 C G hR hP x0 FU x1_1 x2_3 _ (lv_sub hl [2, 1, 0] rfl) hf

theorem in_X8_best_X8 : ∀ w ∈ wsX80, w ∈ wsX8_best := by decide +kernel
def f_X8_best_17 (M : Ms)  : Option (Int32 × Ms) :=
  bn (f_X8_bad M) fun r18 =>
  some (r18.1, r18.2)
set_option maxHeartbeats 4000000 in
set_option maxRecDepth 100000 in
theorem b_X8_best_17 {p : Program} {l : Launch} {e : Env} {s : State} {m : MethodId} {args : Array Value} {below : List Frame} {meth : Method} {c : Code} {Q : State → Prop} {dC : Nat → ClassId} {dI : Nat → Nat → Nat} {cs : Nat → ClassId} {A : Nat → Prop} {a : Nat → Nat} {res : Int32 × Ms} (C : CallFix p m c cX8_best 8 s args wsX8_best RX8) (G : GE dC dI cs s) (hA : ∀ q : Nat, s.heap.size ≤ q → A q) (hR : RTi p l e ({ frames := 4, cells := 0, slots := 0, locals := 94 }) s m args below meth c cX8_best Q (dC, dI) A (fun u : Ms => (wM cs a u)) res) (M : Ms)   (H : Heap) (locs : List Loc) (ls : Array Slot) (hl : lv_has ls 8 [(0, .ref (a 0))]) (hP : va_P (dC, dI) vwCl (wM cs a M) H) (hD : va_D A (wM cs a M)) (hS : va_S A s.heap H locs) (hf : f_X8_best_17 M = some res) : W p l e ({ frames := 4, cells := 0, slots := 0, locals := 94 }) s m args below meth c H locs 0 0 Q (F0 m 17 ls []) := by
  obtain ⟨hx, hb, hml, hown, hts⟩ := id C
  obtain ⟨hK, hN⟩ := id G
  unfold f_X8_best_17 at hf
  refine lv_aload_n hx hb dX8_best_17 rfl (lv_at hl 0 rfl) ?_
  obtain ⟨r18, hr18, hf⟩ := bn_e hf
  have hPc := hP.sub (ws' := (wM cs a M)) [0, 1, 2, 3, 4, 5, 6, 7, 8, 9, 10, 11] rfl
  have hDc := hD.sub (ws' := (wM cs a M)) [0, 1, 2, 3, 4, 5, 6, 7, 8, 9, 10, 11] (by decide) rfl
  have hFc := va_free (wc := (wM cs a M)) hD hS hA [0, 1, 2, 3, 4, 5, 6, 7, 8, 9, 10, 11] rfl
  refine va_calli (va_runV (As := []) (rest := []) C (c_X8_bad l dC dI cs a H.size M r18 hr18) (cwV 0 hts gX8_best_X8_bad rfl rfl rfl (by decide +kernel) ⟨Nat.le_of_ble_eq_true rfl, Nat.le_of_ble_eq_true rfl⟩) ⟨(fun a U g mk q => ⟨q.1, q.2.1, q.2.2.1, GE.calling q.2.2.2.1, q.2.2.2.2⟩), va_recv hK hPc (ci := 8) (q0 := 0) rfl rfl, (fun U hU hW => ⟨rfl, by rw [hU], by rw [hU]; exact hPc, GE.warm hW G, hDc.weaken (fun _ _ _ _ => trivial)⟩)⟩ rfl rfl hl.1 rfl (lv_room (Nat.le_of_ble_eq_true rfl)) dX8_best_18 ⟨Nat.le_of_ble_eq_true rfl, Nat.le_of_ble_eq_true rfl⟩) hS (fun q _ h => hFc q h) hFc (fun q u t H1 locs ht hvm hw hB hz1 hk1 hS => ?_)
  obtain ⟨rfl, rfl⟩ := hw
  obtain ⟨hP1, hD1⟩ := hB
  rw [ht] at hP1
  obtain ⟨hP, hD⟩ := va_join (wr := []) (w1 := (wM cs a r18.2)) hP hD [0, 1, 2, 3, 4, 5, 6, 7, 8, 9, 10, 11] [] rfl rfl (by decide) (by decide) hk1 hFc hP1 hD1
  generalize H1 = H at hP hS ⊢
  have hP := hP.sub (ws' := (wM cs a r18.2)) [0, 1, 2, 3, 4, 5, 6, 7, 8, 9, 10, 11] rfl
  have hD := hD.sub (ws' := (wM cs a r18.2)) [0, 1, 2, 3, 4, 5, 6, 7, 8, 9, 10, 11] (by decide) rfl
  exact hR _ _ _ _ _ _ dX8_best_21 hf hP hD hS
def f_X8_best_128 (x1 : Int32) (x2 : Int32) (x3 : Int32) (x4 : Int32) (x5 : Int32) (x6 : Int32) (M : Ms) (K52 : Int32 → Int32 → Int32 → Ms → Option (Int32 × Ms)) : Option (Int32 × Ms) :=
  lett (x6 + 1) fun x6_128 =>
  K52 x4 x5 x6_128 M
set_option maxHeartbeats 4000000 in
set_option maxRecDepth 100000 in
theorem b_X8_best_128 {p : Program} {l : Launch} {e : Env} {s : State} {m : MethodId} {args : Array Value} {below : List Frame} {meth : Method} {c : Code} {Q : State → Prop} {dC : Nat → ClassId} {dI : Nat → Nat → Nat} {cs : Nat → ClassId} {A : Nat → Prop} {a : Nat → Nat} {res : Int32 × Ms} (C : CallFix p m c cX8_best 8 s args wsX8_best RX8) (G : GE dC dI cs s) (hA : ∀ q : Nat, s.heap.size ≤ q → A q) (hR : RTi p l e ({ frames := 4, cells := 0, slots := 0, locals := 94 }) s m args below meth c cX8_best Q (dC, dI) A (fun u : Ms => (wM cs a u)) res) (x1 : Int32) (x2 : Int32) (x3 : Int32) (x4 : Int32) (x5 : Int32) (x6 : Int32) (M : Ms) {K52 : Int32 → Int32 → Int32 → Ms → Option (Int32 × Ms)} (hK52 : ∀ (x4 : Int32) (x5 : Int32) (x6 : Int32) (M : Ms) (H : Heap) (locs : List Loc) (ls : Array Slot), lv_has ls 8 [(0, .ref (a 0)), (1, .int (x1)), (2, .int (x2)), (3, .int (x3)), (4, .int (x4)), (5, .int (x5)), (6, .int (x6))] → va_P (dC, dI) vwCl (wM cs a M) H → va_D A (wM cs a M) → va_S A s.heap H locs → K52 x4 x5 x6 M = some res → W p l e ({ frames := 4, cells := 0, slots := 0, locals := 94 }) s m args below meth c H locs 0 0 Q (F0 m 52 ls [])) (H : Heap) (locs : List Loc) (ls : Array Slot) (hl : lv_has ls 8 [(0, .ref (a 0)), (1, .int (x1)), (2, .int (x2)), (3, .int (x3)), (4, .int (x4)), (5, .int (x5)), (6, .int (x6))]) (hP : va_P (dC, dI) vwCl (wM cs a M) H) (hD : va_D A (wM cs a M)) (hS : va_S A s.heap H locs) (hf : f_X8_best_128 x1 x2 x3 x4 x5 x6 M K52 = some res) : W p l e ({ frames := 4, cells := 0, slots := 0, locals := 94 }) s m args below meth c H locs 0 0 Q (F0 m 128 ls []) := by
  obtain ⟨hx, hb, hml, hown, hts⟩ := id C
  obtain ⟨hK, hN⟩ := id G
  unfold f_X8_best_128 at hf
  obtain ⟨x6_128, ex6_128⟩ : ∃ y : Int32, y = (x6 + 1) := ⟨_, rfl⟩
  replace hf := lett_s ex6_128 hf
  refine lv_iinc (v := x6_128) (lv' := [(6, .int (x6_128)), (0, .ref (a 0)), (1, .int (x1)), (2, .int (x2)), (3, .int (x3)), (4, .int (x4)), (5, .int (x5))]) hx hb dX8_best_128 hl (k := 6) rfl (by rw [ex6_128]; rfl) (by decide) rfl (fun ls hl => ?_)
  refine lv_goto (tgt := 52) hx hb dX8_best_131 (by decide) ?_
  exact hK52 x4 x5 x6_128 M _ _ _ (lv_sub hl [1, 2, 3, 4, 5, 6, 0] rfl) hP hD hS hf
def f_X8_best_98 (x1 : Int32) (x2 : Int32) (x3 : Int32) (x4 : Int32) (x5 : Int32) (x6 : Int32) (s0 : Int32) (M : Ms) (K52 : Int32 → Int32 → Int32 → Ms → Option (Int32 × Ms)) : Option (Int32 × Ms) :=
  if s0 = 0 then (
    f_X8_best_128 x1 x2 x3 x4 x5 x6 M K52
  ) else (
    bn (f_X8_bears x1 x6 x3 M) fun r110 =>
    if r110.1 = 0 then (
      f_X8_best_128 x1 x2 x3 x4 x5 x6 r110.2 K52
    ) else (
      bn (f_X8_gained x6 r110.2) fun r123 =>
      f_X8_best_128 x1 x2 x3 x6 r123 x6 r110.2 K52
    )
  )
set_option maxHeartbeats 4000000 in
set_option maxRecDepth 100000 in
theorem b_X8_best_98 {p : Program} {l : Launch} {e : Env} {s : State} {m : MethodId} {args : Array Value} {below : List Frame} {meth : Method} {c : Code} {Q : State → Prop} {dC : Nat → ClassId} {dI : Nat → Nat → Nat} {cs : Nat → ClassId} {A : Nat → Prop} {a : Nat → Nat} {res : Int32 × Ms} (C : CallFix p m c cX8_best 8 s args wsX8_best RX8) (G : GE dC dI cs s) (hA : ∀ q : Nat, s.heap.size ≤ q → A q) (hR : RTi p l e ({ frames := 4, cells := 0, slots := 0, locals := 94 }) s m args below meth c cX8_best Q (dC, dI) A (fun u : Ms => (wM cs a u)) res) (x1 : Int32) (x2 : Int32) (x3 : Int32) (x4 : Int32) (x5 : Int32) (x6 : Int32) (s0 : Int32) (M : Ms) {K52 : Int32 → Int32 → Int32 → Ms → Option (Int32 × Ms)} (hK52 : ∀ (x4 : Int32) (x5 : Int32) (x6 : Int32) (M : Ms) (H : Heap) (locs : List Loc) (ls : Array Slot), lv_has ls 8 [(0, .ref (a 0)), (1, .int (x1)), (2, .int (x2)), (3, .int (x3)), (4, .int (x4)), (5, .int (x5)), (6, .int (x6))] → va_P (dC, dI) vwCl (wM cs a M) H → va_D A (wM cs a M) → va_S A s.heap H locs → K52 x4 x5 x6 M = some res → W p l e ({ frames := 4, cells := 0, slots := 0, locals := 94 }) s m args below meth c H locs 0 0 Q (F0 m 52 ls [])) (H : Heap) (locs : List Loc) (ls : Array Slot) (hl : lv_has ls 8 [(0, .ref (a 0)), (1, .int (x1)), (2, .int (x2)), (3, .int (x3)), (4, .int (x4)), (5, .int (x5)), (6, .int (x6))]) (hP : va_P (dC, dI) vwCl (wM cs a M) H) (hD : va_D A (wM cs a M)) (hS : va_S A s.heap H locs) (hf : f_X8_best_98 x1 x2 x3 x4 x5 x6 s0 M K52 = some res) : W p l e ({ frames := 4, cells := 0, slots := 0, locals := 94 }) s m args below meth c H locs 0 0 Q (F0 m 98 ls [.int (s0)]) := by
  obtain ⟨hx, hb, hml, hown, hts⟩ := id C
  obtain ⟨hK, hN⟩ := id G
  unfold f_X8_best_98 at hf
  refine lv_istore (lv' := [(7, .int (s0)), (0, .ref (a 0)), (1, .int (x1)), (2, .int (x2)), (3, .int (x3)), (4, .int (x4)), (5, .int (x5)), (6, .int (x6))]) hx hb dX8_best_98 hl (by decide) rfl (fun ls hl => ?_)
  refine lv_iload hx hb dX8_best_100 (lv_at hl 0 rfl) ?_
  refine lv_if_eq (tgt := 128) hx hb dX8_best_102 (by decide) (fun c1 => ?_) (fun c1 => ?_)
  · replace hf := it_t c1 hf
    exact b_X8_best_128 C G hA hR x1 x2 x3 x4 x5 x6 M hK52 _ _ _ (lv_sub hl [1, 2, 3, 4, 5, 6, 7] rfl) hP hD hS hf
  · replace hf := it_f c1 hf
    refine lv_aload_n hx hb dX8_best_105 rfl (lv_at hl 1 rfl) ?_
    refine lv_iload_n hx hb dX8_best_106 rfl (lv_at hl 2 rfl) ?_
    refine lv_iload hx hb dX8_best_107 (lv_at hl 7 rfl) ?_
    refine lv_iload_n hx hb dX8_best_109 rfl (lv_at hl 4 rfl) ?_
    obtain ⟨r110, hr110, hf⟩ := bn_e hf
    have hPc := hP.sub (ws' := (wM cs a M)) [0, 1, 2, 3, 4, 5, 6, 7, 8, 9, 10, 11] rfl
    have hDc := hD.sub (ws' := (wM cs a M)) [0, 1, 2, 3, 4, 5, 6, 7, 8, 9, 10, 11] (by decide) rfl
    have hFc := va_free (wc := (wM cs a M)) hD hS hA [0, 1, 2, 3, 4, 5, 6, 7, 8, 9, 10, 11] rfl
    refine va_calli (va_runV (As := [.int (x1), .int (x6), .int (x3)]) (rest := []) C (c_X8_bears l dC dI cs a H.size M x1 x6 x3 r110 hr110) (cwV 3 hts gX8_best_X8_bears rfl rfl rfl (by decide +kernel) ⟨Nat.le_of_ble_eq_true rfl, Nat.le_of_ble_eq_true rfl⟩) ⟨(fun a U g mk q => ⟨q.1, q.2.1, q.2.2.1, GE.calling q.2.2.2.1, q.2.2.2.2⟩), va_recv hK hPc (ci := 8) (q0 := 0) rfl rfl, (fun U hU hW => ⟨rfl, by rw [hU], by rw [hU]; exact hPc, GE.warm hW G, hDc.weaken (fun _ _ _ _ => trivial)⟩)⟩ rfl rfl hl.1 rfl (lv_room (Nat.le_of_ble_eq_true rfl)) dX8_best_110 ⟨Nat.le_of_ble_eq_true rfl, Nat.le_of_ble_eq_true rfl⟩) hS (fun q _ h => hFc q h) hFc (fun q u t H1 locs ht hvm hw hB hz1 hk1 hS => ?_)
    obtain ⟨rfl, rfl, hnr110⟩ := hw
    obtain ⟨hP1, hD1⟩ := hB
    rw [ht] at hP1
    obtain ⟨hP, hD⟩ := va_join (wr := []) (w1 := (wM cs a r110.2)) hP hD [0, 1, 2, 3, 4, 5, 6, 7, 8, 9, 10, 11] [] rfl rfl (by decide) (by decide) hk1 hFc hP1 hD1
    generalize H1 = H at hP hS ⊢
    have hP := hP.sub (ws' := (wM cs a r110.2)) [0, 1, 2, 3, 4, 5, 6, 7, 8, 9, 10, 11] rfl
    have hD := hD.sub (ws' := (wM cs a r110.2)) [0, 1, 2, 3, 4, 5, 6, 7, 8, 9, 10, 11] (by decide) rfl
    refine lv_if_eq (tgt := 128) hx hb dX8_best_113 (by decide) (fun c2 => ?_) (fun c2 => ?_)
    · replace hf := it_t c2 hf
      exact b_X8_best_128 C G hA hR x1 x2 x3 x4 x5 x6 r110.2 hK52 _ _ _ (lv_sub hl [1, 2, 3, 4, 5, 6, 7] rfl) hP hD hS hf
    · replace hf := it_f c2 hf
      refine lv_iload hx hb dX8_best_116 (lv_at hl 7 rfl) ?_
      refine lv_istore (lv' := [(4, .int (x6)), (7, .int (s0)), (0, .ref (a 0)), (1, .int (x1)), (2, .int (x2)), (3, .int (x3)), (5, .int (x5)), (6, .int (x6))]) hx hb dX8_best_118 hl (by decide) rfl (fun ls hl => ?_)
      refine lv_aload_n hx hb dX8_best_120 rfl (lv_at hl 2 rfl) ?_
      refine lv_iload hx hb dX8_best_121 (lv_at hl 7 rfl) ?_
      obtain ⟨r123, hr123, hf⟩ := bn_e hf
      have hPc := hP.sub (ws' := (wM cs a r110.2)) [0, 1, 2, 3, 4, 5, 6, 7, 8, 9, 10, 11] rfl
      refine vp_callSi (W.runV (As := [.int (x6)]) (rest := []) C (c_X8_gained l dC dI cs a r110.2 x6 r123 hr123) (cwV 1 hts gX8_best_X8_gained rfl rfl rfl (by decide +kernel) ⟨Nat.le_of_ble_eq_true rfl, Nat.le_of_ble_eq_true rfl⟩) ⟨(fun a U g mk q => ⟨q.1, q.2.1, GE.calling q.2.2⟩), va_recv hK hPc (ci := 8) (q0 := 0) rfl rfl, (fun U hU hW => ⟨rfl, by rw [hU]; exact hPc, GE.warm hW G⟩)⟩ rfl rfl hl.1 rfl (lv_room (Nat.le_of_ble_eq_true rfl)) dX8_best_123 ⟨Nat.le_of_ble_eq_true rfl, Nat.le_of_ble_eq_true rfl⟩) (fun qr123 hqr123 => ?_)
      obtain rfl := hqr123.symm
      refine lv_istore (lv' := [(5, .int (r123)), (4, .int (x6)), (7, .int (s0)), (0, .ref (a 0)), (1, .int (x1)), (2, .int (x2)), (3, .int (x3)), (6, .int (x6))]) hx hb dX8_best_126 hl (by decide) rfl (fun ls hl => ?_)
      exact b_X8_best_128 C G hA hR x1 x2 x3 x6 r123 x6 r110.2 hK52 _ _ _ (lv_sub hl [3, 4, 5, 6, 1, 0, 7] rfl) hP hD hS hf
def f_X8_best_97 (x1 : Int32) (x2 : Int32) (x3 : Int32) (x4 : Int32) (x5 : Int32) (x6 : Int32) (M : Ms) (K52 : Int32 → Int32 → Int32 → Ms → Option (Int32 × Ms)) : Option (Int32 × Ms) :=
  f_X8_best_98 x1 x2 x3 x4 x5 x6 (0 : Int32) M K52
set_option maxHeartbeats 4000000 in
set_option maxRecDepth 100000 in
theorem b_X8_best_97 {p : Program} {l : Launch} {e : Env} {s : State} {m : MethodId} {args : Array Value} {below : List Frame} {meth : Method} {c : Code} {Q : State → Prop} {dC : Nat → ClassId} {dI : Nat → Nat → Nat} {cs : Nat → ClassId} {A : Nat → Prop} {a : Nat → Nat} {res : Int32 × Ms} (C : CallFix p m c cX8_best 8 s args wsX8_best RX8) (G : GE dC dI cs s) (hA : ∀ q : Nat, s.heap.size ≤ q → A q) (hR : RTi p l e ({ frames := 4, cells := 0, slots := 0, locals := 94 }) s m args below meth c cX8_best Q (dC, dI) A (fun u : Ms => (wM cs a u)) res) (x1 : Int32) (x2 : Int32) (x3 : Int32) (x4 : Int32) (x5 : Int32) (x6 : Int32) (M : Ms) {K52 : Int32 → Int32 → Int32 → Ms → Option (Int32 × Ms)} (hK52 : ∀ (x4 : Int32) (x5 : Int32) (x6 : Int32) (M : Ms) (H : Heap) (locs : List Loc) (ls : Array Slot), lv_has ls 8 [(0, .ref (a 0)), (1, .int (x1)), (2, .int (x2)), (3, .int (x3)), (4, .int (x4)), (5, .int (x5)), (6, .int (x6))] → va_P (dC, dI) vwCl (wM cs a M) H → va_D A (wM cs a M) → va_S A s.heap H locs → K52 x4 x5 x6 M = some res → W p l e ({ frames := 4, cells := 0, slots := 0, locals := 94 }) s m args below meth c H locs 0 0 Q (F0 m 52 ls [])) (H : Heap) (locs : List Loc) (ls : Array Slot) (hl : lv_has ls 8 [(0, .ref (a 0)), (1, .int (x1)), (2, .int (x2)), (3, .int (x3)), (4, .int (x4)), (5, .int (x5)), (6, .int (x6))]) (hP : va_P (dC, dI) vwCl (wM cs a M) H) (hD : va_D A (wM cs a M)) (hS : va_S A s.heap H locs) (hf : f_X8_best_97 x1 x2 x3 x4 x5 x6 M K52 = some res) : W p l e ({ frames := 4, cells := 0, slots := 0, locals := 94 }) s m args below meth c H locs 0 0 Q (F0 m 97 ls []) := by
  obtain ⟨hx, hb, hml, hown, hts⟩ := id C
  obtain ⟨hK, hN⟩ := id G
  unfold f_X8_best_97 at hf
  refine lv_iconst (v := 0) hx hb dX8_best_97 (by decide) ?_
  exact b_X8_best_98 C G hA hR x1 x2 x3 x4 x5 x6 (0 : Int32) M hK52 _ _ _ (lv_sub hl [0, 1, 2, 3, 4, 5, 6] rfl) hP hD hS hf
def f_X8_best_52 (x1 : Int32) (x2 : Int32) (x3 : Int32) (x4 : Int32) (x5 : Int32) (x6 : Int32) (M : Ms) (K52 : Int32 → Int32 → Int32 → Ms → Option (Int32 × Ms)) (K134 : Int32 → Int32 → Ms → Option (Int32 × Ms)) : Option (Int32 × Ms) :=
  gi ((5 : Int32)) 362 <|
  if ((1 : Int32) <<< (((M.2.2 0) ((5 : Int32)).toNatClampNeg) &&& 31)) ≤ x6 then (
    K134 x4 x5 M
  ) else (
    bn (f_X8_ones x6) fun r67 =>
    gi ((4 : Int32)) 362 <|
    if (8 : Int32) < (r67 + ((M.2.2 0) ((4 : Int32)).toNatClampNeg)) then (
      f_X8_best_97 x1 x2 x3 x4 x5 x6 M K52
    ) else (
      bn (f_X8_gained x6 M) fun r85 =>
      if r85 ≤ x5 then (
        f_X8_best_97 x1 x2 x3 x4 x5 x6 M K52
      ) else (
        f_X8_best_98 x1 x2 x3 x4 x5 x6 (1 : Int32) M K52
      )
    )
  )
set_option maxHeartbeats 4000000 in
set_option maxRecDepth 100000 in
theorem b_X8_best_52 {p : Program} {l : Launch} {e : Env} {s : State} {m : MethodId} {args : Array Value} {below : List Frame} {meth : Method} {c : Code} {Q : State → Prop} {dC : Nat → ClassId} {dI : Nat → Nat → Nat} {cs : Nat → ClassId} {A : Nat → Prop} {a : Nat → Nat} {res : Int32 × Ms} (C : CallFix p m c cX8_best 8 s args wsX8_best RX8) (G : GE dC dI cs s) (hA : ∀ q : Nat, s.heap.size ≤ q → A q) (hR : RTi p l e ({ frames := 4, cells := 0, slots := 0, locals := 94 }) s m args below meth c cX8_best Q (dC, dI) A (fun u : Ms => (wM cs a u)) res) (x1 : Int32) (x2 : Int32) (x3 : Int32) (x4 : Int32) (x5 : Int32) (x6 : Int32) (M : Ms) {K52 : Int32 → Int32 → Int32 → Ms → Option (Int32 × Ms)} {K134 : Int32 → Int32 → Ms → Option (Int32 × Ms)} (hK52 : ∀ (x4 : Int32) (x5 : Int32) (x6 : Int32) (M : Ms) (H : Heap) (locs : List Loc) (ls : Array Slot), lv_has ls 8 [(0, .ref (a 0)), (1, .int (x1)), (2, .int (x2)), (3, .int (x3)), (4, .int (x4)), (5, .int (x5)), (6, .int (x6))] → va_P (dC, dI) vwCl (wM cs a M) H → va_D A (wM cs a M) → va_S A s.heap H locs → K52 x4 x5 x6 M = some res → W p l e ({ frames := 4, cells := 0, slots := 0, locals := 94 }) s m args below meth c H locs 0 0 Q (F0 m 52 ls [])) (hK134 : ∀ (x4 : Int32) (x5 : Int32) (M : Ms) (H : Heap) (locs : List Loc) (ls : Array Slot), lv_has ls 8 [(2, .int (x2)), (4, .int (x4)), (5, .int (x5))] → va_P (dC, dI) vwCl (wM cs a M) H → va_D A (wM cs a M) → va_S A s.heap H locs → K134 x4 x5 M = some res → W p l e ({ frames := 4, cells := 0, slots := 0, locals := 94 }) s m args below meth c H locs 0 0 Q (F0 m 134 ls [])) (H : Heap) (locs : List Loc) (ls : Array Slot) (hl : lv_has ls 8 [(0, .ref (a 0)), (1, .int (x1)), (2, .int (x2)), (3, .int (x3)), (4, .int (x4)), (5, .int (x5)), (6, .int (x6))]) (hP : va_P (dC, dI) vwCl (wM cs a M) H) (hD : va_D A (wM cs a M)) (hS : va_S A s.heap H locs) (hf : f_X8_best_52 x1 x2 x3 x4 x5 x6 M K52 K134 = some res) : W p l e ({ frames := 4, cells := 0, slots := 0, locals := 94 }) s m args below meth c H locs 0 0 Q (F0 m 52 ls []) := by
  obtain ⟨hx, hb, hml, hown, hts⟩ := id C
  obtain ⟨hK, hN⟩ := id G
  unfold f_X8_best_52 at hf
  refine lv_iload hx hb dX8_best_52 (lv_at hl 6 rfl) ?_
  refine lv_iconst (v := 1) hx hb dX8_best_54 (by decide) ?_
  refine lv_aload_n hx hb dX8_best_55 rfl (lv_at hl 0 rfl) ?_
  refine va_get (D := (dC, dI)) (ci := 8) (v := .ref (a 1)) (C := RX8) (T := TX8) (N := 20) hx hb hts in_X8_best_X8 hown hK hP 0 rfl rfl 0 (by decide) (hts (.fieldLink RX8 7 "BackLoansModel" "now" "[I") (by decide +kernel)) (fun _ h9 => h9) rfl dX8_best_56 ?_
  refine lv_iconst (v := 5) hx hb dX8_best_59 (by decide) ?_
  obtain ⟨hi1, hf⟩ := gi_e hf
  refine va_iald hx hb hK hP 1 0 rfl rfl hi1 dX8_best_60 ?_
  refine lv_ishl hx hb dX8_best_61 ?_
  refine lv_icmp_ge (tgt := 134) hx hb dX8_best_62 (by decide) (fun c2 => ?_) (fun c2 => ?_)
  · replace hf := it_t c2 hf
    exact hK134 x4 x5 M _ _ _ (lv_sub hl [2, 4, 5] rfl) hP hD hS hf
  · replace hf := it_f c2 hf
    refine lv_iload hx hb dX8_best_65 (lv_at hl 6 rfl) ?_
    obtain ⟨r67, hr67, hf⟩ := bn_e hf
    have hPc := hP.sub (ws' := ([] : va_W)) [] rfl
    refine vp_callSi (W.runS (As := [.int (x6)]) (rest := []) C (c_X8_ones l dC dI cs x6 r67 hr67) (va_cwS 1 hts gX8_best_X8_ones rfl rfl rfl (by decide +kernel) ⟨Nat.le_of_ble_eq_true rfl, Nat.le_of_ble_eq_true rfl⟩) ⟨(fun a U g mk q => ⟨q.1, q.2.1, GE.calling q.2.2⟩), (fun U hU hW => ⟨rfl, by rw [hU]; exact hPc, GE.warm hW G⟩)⟩ rfl rfl hl.1 rfl (lv_room (Nat.le_of_ble_eq_true rfl)) dX8_best_67 ⟨Nat.le_of_ble_eq_true rfl, Nat.le_of_ble_eq_true rfl⟩) (fun qr67 hqr67 => ?_)
    obtain rfl := hqr67.symm
    refine lv_aload_n hx hb dX8_best_70 rfl (lv_at hl 0 rfl) ?_
    refine va_get (D := (dC, dI)) (ci := 8) (v := .ref (a 1)) (C := RX8) (T := TX8) (N := 20) hx hb hts in_X8_best_X8 hown hK hP 0 rfl rfl 0 (by decide) (hts (.fieldLink RX8 7 "BackLoansModel" "now" "[I") (by decide +kernel)) (fun _ h9 => h9) rfl dX8_best_71 ?_
    refine lv_iconst (v := 4) hx hb dX8_best_74 (by decide) ?_
    obtain ⟨hi3, hf⟩ := gi_e hf
    refine va_iald hx hb hK hP 1 0 rfl rfl hi3 dX8_best_75 ?_
    refine lv_iadd hx hb dX8_best_76 ?_
    refine lv_bipush (v := 8) hx hb dX8_best_77 (by decide) ?_
    refine lv_icmp_gt (tgt := 97) hx hb dX8_best_79 (by decide) (fun c4 => ?_) (fun c4 => ?_)
    · replace hf := it_t c4 hf
      exact b_X8_best_97 C G hA hR x1 x2 x3 x4 x5 x6 M hK52 _ _ _ (lv_sub hl [0, 1, 2, 3, 4, 5, 6] rfl) hP hD hS hf
    · replace hf := it_f c4 hf
      refine lv_aload_n hx hb dX8_best_82 rfl (lv_at hl 0 rfl) ?_
      refine lv_iload hx hb dX8_best_83 (lv_at hl 6 rfl) ?_
      obtain ⟨r85, hr85, hf⟩ := bn_e hf
      have hPc := hP.sub (ws' := (wM cs a M)) [0, 1, 2, 3, 4, 5, 6, 7, 8, 9, 10, 11] rfl
      refine vp_callSi (W.runV (As := [.int (x6)]) (rest := []) C (c_X8_gained l dC dI cs a M x6 r85 hr85) (cwV 1 hts gX8_best_X8_gained rfl rfl rfl (by decide +kernel) ⟨Nat.le_of_ble_eq_true rfl, Nat.le_of_ble_eq_true rfl⟩) ⟨(fun a U g mk q => ⟨q.1, q.2.1, GE.calling q.2.2⟩), va_recv hK hPc (ci := 8) (q0 := 0) rfl rfl, (fun U hU hW => ⟨rfl, by rw [hU]; exact hPc, GE.warm hW G⟩)⟩ rfl rfl hl.1 rfl (lv_room (Nat.le_of_ble_eq_true rfl)) dX8_best_85 ⟨Nat.le_of_ble_eq_true rfl, Nat.le_of_ble_eq_true rfl⟩) (fun qr85 hqr85 => ?_)
      obtain rfl := hqr85.symm
      refine lv_iload hx hb dX8_best_88 (lv_at hl 5 rfl) ?_
      refine lv_icmp_le (tgt := 97) hx hb dX8_best_90 (by decide) (fun c5 => ?_) (fun c5 => ?_)
      · replace hf := it_t c5 hf
        exact b_X8_best_97 C G hA hR x1 x2 x3 x4 x5 x6 M hK52 _ _ _ (lv_sub hl [0, 1, 2, 3, 4, 5, 6] rfl) hP hD hS hf
      · replace hf := it_f c5 hf
        refine lv_iconst (v := 1) hx hb dX8_best_93 (by decide) ?_
        refine lv_goto (tgt := 98) hx hb dX8_best_94 (by decide) ?_
        exact b_X8_best_98 C G hA hR x1 x2 x3 x4 x5 x6 (1 : Int32) M hK52 _ _ _ (lv_sub hl [0, 1, 2, 3, 4, 5, 6] rfl) hP hD hS hf
def l_X8_best_52 (x1 : Int32) (x2 : Int32) (x3 : Int32) (K134 : Int32 → Int32 → Ms → Option (Int32 × Ms)) (n : Nat) (x4 : Int32) (x5 : Int32) (x6 : Int32) (M : Ms) : Option (Int32 × Ms) := itr (fun (k : Int32 × Int32 × Int32 × Ms → Option (Int32 × Ms)) (z : Int32 × Int32 × Int32 × Ms) => f_X8_best_52 x1 x2 x3 z.1 z.2.1 z.2.2.1 z.2.2.2 (fun x4 x5 x6 M => k (x4, x5, x6, M)) K134) n (x4, x5, x6, M)
set_option maxHeartbeats 4000000 in
set_option maxRecDepth 100000 in
theorem w_X8_best_52 {p : Program} {l : Launch} {e : Env} {s : State} {m : MethodId} {args : Array Value} {below : List Frame} {meth : Method} {c : Code} {Q : State → Prop} {dC : Nat → ClassId} {dI : Nat → Nat → Nat} {cs : Nat → ClassId} {A : Nat → Prop} {a : Nat → Nat} {res : Int32 × Ms} (C : CallFix p m c cX8_best 8 s args wsX8_best RX8) (G : GE dC dI cs s) (hA : ∀ q : Nat, s.heap.size ≤ q → A q) (hR : RTi p l e ({ frames := 4, cells := 0, slots := 0, locals := 94 }) s m args below meth c cX8_best Q (dC, dI) A (fun u : Ms => (wM cs a u)) res) (x1 : Int32) (x2 : Int32) (x3 : Int32) {K134 : Int32 → Int32 → Ms → Option (Int32 × Ms)} (hK134 : ∀ (x4 : Int32) (x5 : Int32) (M : Ms) (H : Heap) (locs : List Loc) (ls : Array Slot), lv_has ls 8 [(2, .int (x2)), (4, .int (x4)), (5, .int (x5))] → va_P (dC, dI) vwCl (wM cs a M) H → va_D A (wM cs a M) → va_S A s.heap H locs → K134 x4 x5 M = some res → W p l e ({ frames := 4, cells := 0, slots := 0, locals := 94 }) s m args below meth c H locs 0 0 Q (F0 m 134 ls [])) : ∀ (n : Nat) (x4 : Int32) (x5 : Int32) (x6 : Int32) (M : Ms) (H : Heap) (locs : List Loc) (ls : Array Slot), lv_has ls 8 [(0, .ref (a 0)), (1, .int (x1)), (2, .int (x2)), (3, .int (x3)), (4, .int (x4)), (5, .int (x5)), (6, .int (x6))] → va_P (dC, dI) vwCl (wM cs a M) H → va_D A (wM cs a M) → va_S A s.heap H locs → l_X8_best_52 x1 x2 x3 K134 n x4 x5 x6 M = some res → W p l e ({ frames := 4, cells := 0, slots := 0, locals := 94 }) s m args below meth c H locs 0 0 Q (F0 m 52 ls []) := by
  intro n
  induction n with
  | zero => intro x4 x5 x6 M H locs ls hl hP hD hS hf; exact absurd hf (by simp [l_X8_best_52, itr])
  | succ n ih =>
    intro x4 x5 x6 M H locs ls hl hP hD hS hf
    replace hf : f_X8_best_52 x1 x2 x3 x4 x5 x6 M (fun x4 x5 x6 M => l_X8_best_52 x1 x2 x3 K134 n x4 x5 x6 M) K134 = some res := by rw [← hf]; unfold l_X8_best_52; rw [itr_s]
    exact b_X8_best_52 C G hA hR x1 x2 x3 x4 x5 x6 M (K52 := fun x4 x5 x6 M => l_X8_best_52 x1 x2 x3 K134 n x4 x5 x6 M) (fun x4 x5 x6 M H locs ls hl hP hD hS hf => ih x4 x5 x6 M H locs ls hl hP hD hS hf) hK134 H locs ls hl hP hD hS hf
def f_X8_best_134 (x2 : Int32) (x4 : Int32) (x5 : Int32) (M : Ms)  : Option (Int32 × Ms) :=
  if x2 = 0 then (
    some (x5, M)
  ) else (
    some (x4, M)
  )
set_option maxHeartbeats 4000000 in
set_option maxRecDepth 100000 in
theorem b_X8_best_134 {p : Program} {l : Launch} {e : Env} {s : State} {m : MethodId} {args : Array Value} {below : List Frame} {meth : Method} {c : Code} {Q : State → Prop} {dC : Nat → ClassId} {dI : Nat → Nat → Nat} {cs : Nat → ClassId} {A : Nat → Prop} {a : Nat → Nat} {res : Int32 × Ms} (C : CallFix p m c cX8_best 8 s args wsX8_best RX8) (G : GE dC dI cs s) (hA : ∀ q : Nat, s.heap.size ≤ q → A q) (hR : RTi p l e ({ frames := 4, cells := 0, slots := 0, locals := 94 }) s m args below meth c cX8_best Q (dC, dI) A (fun u : Ms => (wM cs a u)) res) (x2 : Int32) (x4 : Int32) (x5 : Int32) (M : Ms)   (H : Heap) (locs : List Loc) (ls : Array Slot) (hl : lv_has ls 8 [(2, .int (x2)), (4, .int (x4)), (5, .int (x5))]) (hP : va_P (dC, dI) vwCl (wM cs a M) H) (hD : va_D A (wM cs a M)) (hS : va_S A s.heap H locs) (hf : f_X8_best_134 x2 x4 x5 M = some res) : W p l e ({ frames := 4, cells := 0, slots := 0, locals := 94 }) s m args below meth c H locs 0 0 Q (F0 m 134 ls []) := by
  obtain ⟨hx, hb, hml, hown, hts⟩ := id C
  obtain ⟨hK, hN⟩ := id G
  unfold f_X8_best_134 at hf
  refine lv_iload_n hx hb dX8_best_134 rfl (lv_at hl 0 rfl) ?_
  refine lv_if_ne (tgt := 143) hx hb dX8_best_135 (by decide) (fun c1 => ?_) (fun c1 => ?_)
  · replace hf := it_f c1 hf
    refine lv_iload hx hb dX8_best_143 (lv_at hl 1 rfl) ?_
    exact hR _ _ _ _ _ _ dX8_best_145 hf hP hD hS
  · replace hf := it_t c1 hf
    refine lv_iload hx hb dX8_best_138 (lv_at hl 2 rfl) ?_
    refine lv_goto (tgt := 145) hx hb dX8_best_140 (by decide) ?_
    exact hR _ _ _ _ _ _ dX8_best_145 hf hP hD hS
def f_X8_best (x1 : Int32) (x2 : Int32) (M : Ms) : Option (Int32 × Ms) :=
  bn (f_X8_isPerson x1 M) fun r2 =>
  if r2 = 0 then (
    f_X8_best_17 M
  ) else (
    bn (f_X8_in x2 (0 : Int32) (1 : Int32)) fun r11 =>
    if r11 = 0 then (
      f_X8_best_17 M
    ) else (
      bn (f_X8_goes (12 : Int32) M) fun r25 =>
      gi ((4 : Int32)) 362 <|
      bn (f_X8_many (2 : Int32) ((r25.2.2 0) ((4 : Int32)).toNatClampNeg) (r25.2.2 1)) fun r39 =>
      lett (0 : Int32) fun x4_44 =>
      lett (0 : Int32) fun x5_47 =>
      lett (1 : Int32) fun x6_50 =>
      l_X8_best_52 x1 x2 r39 (fun x4 x5 Mz => f_X8_best_134 x2 x4 x5 Mz) FU x4_44 x5_47 x6_50 r25
    )
  )
set_option maxHeartbeats 4000000 in
set_option maxRecDepth 100000 in
theorem c_X8_best (l : Launch) (dC : Nat → ClassId) (dI : Nat → Nat → Nat) (cs : Nat → ClassId) (a : Nat → Nat) (sz : Nat) (M : Ms) (x1 : Int32) (x2 : Int32) (res : Int32 × Ms) (hf : f_X8_best x1 x2 M = some res) : Met l yX8_best wsX8_best ({ frames := 4, cells := 0, slots := 0, locals := 94 }) (va_Pc [.ref (a 0), .int (x1), .int (x2)] (fun U => U.heap.size = sz ∧ va_P (dC, dI) vwCl (wM cs a M) U.heap ∧ GE dC dI cs U ∧ va_D (fun _ => True) (wM cs a M))) (va_Qi (fun r (u : Ms) => r = res.1 ∧ u = res.2) (fun u t => va_P (dC, dI) vwCl ((fun u : Ms => (wM cs a u)) u) t.heap ∧ va_D (va_A (wM cs a M) sz) ((fun u : Ms => (wM cs a u)) u)) (va_A (wM cs a M) sz)) 0 0 (va_A (wM cs a M) sz) := by
  refine Met.ofW (cc := cX8_best) (maxL := 8) (ret := (some .int)) (by decide) rfl ?_
  intro p e s m args below meth c s₁ Bd hml hv
  obtain ⟨rfl, hsz, hP, G, hD0⟩ := hv
  have hts := atoms_spec (ws := wsX8_best) Bd.pre
  have hown : s.vm.findClass RX8 = some m.cls := findClass_of_methodNamed Bd.named
  have hlocks := Bd.notSynchronized
  have hx := Bd.exec
  have hb := Bd.bytes
  have hr := Bd.returns
  have C : CallFix p m c cX8_best 8 s _ wsX8_best RX8 := ⟨hx, hb, hml, hown, hts⟩
  obtain ⟨hK, hN⟩ := id G
  subst hsz
  have hD := hD0.self (sz := s.heap.size)
  generalize hAe : va_A (wM cs a M) s.heap.size = A at hD ⊢
  have hA : ∀ q : Nat, s.heap.size ≤ q → A q := fun q h => by rw [← hAe]; exact Or.inr h
  have hS : va_S A s.heap s.heap [] := va_S.rf
  have hR : RTi p l e ({ frames := 4, cells := 0, slots := 0, locals := 94 }) s m ([.ref (a 0), .int (x1), .int (x2)] : List Value).toArray below meth c cX8_best (MQ below (va_Qi (fun r (u : Ms) => r = res.1 ∧ u = res.2) (fun u t => va_P (dC, dI) vwCl ((fun u : Ms => (wM cs a u)) u) t.heap ∧ va_D A ((fun u : Ms => (wM cs a u)) u)) A) ([.ref (a 0), .int (x1), .int (x2)] : List Value).toArray s 0 0 A) (dC, dI) A (fun u : Ms => (wM cs a u)) res := fun H locs pc ls r u dd h hP hD hS => W.iret hx hb hr (fun t ht hW => ⟨⟨r, u, rfl, by cases h; exact ⟨rfl, rfl⟩, by rw [ht]; exact hP, hD⟩, hS.F ht⟩) hS.2.2 dd
  have hl := lv_entry ([.ref (a 0), .int (x1), .int (x2)]) (n := 8) (Nat.le_of_ble_eq_true rfl)
  rw [lg_entry_eq]
  generalize (lg_sl ([.ref (a 0), .int (x1), .int (x2)]) ++ List.replicate (8 - (lg_sl ([.ref (a 0), .int (x1), .int (x2)])).length) Slot.unset).toArray = ls at hl ⊢
  have hl : lv_has ls 8 [(0, .ref (a 0)), (1, .int (x1)), (2, .int (x2))] := hl
  unfold f_X8_best at hf
  refine lv_aload_n hx hb dX8_best_0 rfl (lv_at hl 0 rfl) ?_
  refine lv_iload_n hx hb dX8_best_1 rfl (lv_at hl 1 rfl) ?_
  obtain ⟨r2, hr2, hf⟩ := bn_e hf
  have hPc := hP.sub (ws' := (wM cs a M)) [0, 1, 2, 3, 4, 5, 6, 7, 8, 9, 10, 11] rfl
  refine vp_callSi (W.runV (As := [.int (x1)]) (rest := []) C (c_X8_isPerson l dC dI cs a M x1 r2 hr2) (cwV 1 hts gX8_best_X8_isPerson rfl rfl rfl (by decide +kernel) ⟨Nat.le_of_ble_eq_true rfl, Nat.le_of_ble_eq_true rfl⟩) ⟨(fun a U g mk q => ⟨q.1, q.2.1, GE.calling q.2.2⟩), va_recv hK hPc (ci := 8) (q0 := 0) rfl rfl, (fun U hU hW => ⟨rfl, by rw [hU]; exact hPc, GE.warm hW G⟩)⟩ rfl rfl hl.1 rfl (lv_room (Nat.le_of_ble_eq_true rfl)) dX8_best_2 ⟨Nat.le_of_ble_eq_true rfl, Nat.le_of_ble_eq_true rfl⟩) (fun qr2 hqr2 => ?_)
  obtain ⟨hqr2, hnr2⟩ := hqr2
  obtain rfl := hqr2.symm
  refine lv_if_eq (tgt := 17) hx hb dX8_best_5 (by decide) (fun c1 => ?_) (fun c1 => ?_)
  · replace hf := it_t c1 hf
    exact b_X8_best_17 C G hA hR M _ _ _ (lv_sub hl [0] rfl) hP hD hS hf
  · replace hf := it_f c1 hf
    refine lv_iload_n hx hb dX8_best_8 rfl (lv_at hl 2 rfl) ?_
    refine lv_iconst (v := 0) hx hb dX8_best_9 (by decide) ?_
    refine lv_iconst (v := 1) hx hb dX8_best_10 (by decide) ?_
    obtain ⟨r11, hr11, hf⟩ := bn_e hf
    have hPc := hP.sub (ws' := ([] : va_W)) [] rfl
    refine vp_callSi (W.runS (As := [.int (x2), .int ((0 : Int32)), .int ((1 : Int32))]) (rest := []) C (c_X8_in l dC dI cs x2 (0 : Int32) (1 : Int32) r11 hr11) (va_cwS 3 hts gX8_best_X8_in rfl rfl rfl (by decide +kernel) ⟨Nat.le_of_ble_eq_true rfl, Nat.le_of_ble_eq_true rfl⟩) ⟨(fun a U g mk q => ⟨q.1, q.2.1, GE.calling q.2.2⟩), (fun U hU hW => ⟨rfl, by rw [hU]; exact hPc, GE.warm hW G⟩)⟩ rfl rfl hl.1 rfl (lv_room (Nat.le_of_ble_eq_true rfl)) dX8_best_11 ⟨Nat.le_of_ble_eq_true rfl, Nat.le_of_ble_eq_true rfl⟩) (fun qr11 hqr11 => ?_)
    obtain ⟨hqr11, hnr11⟩ := hqr11
    obtain rfl := hqr11.symm
    refine lv_if_ne (tgt := 22) hx hb dX8_best_14 (by decide) (fun c2 => ?_) (fun c2 => ?_)
    · replace hf := it_f c2 hf
      refine lv_aload_n hx hb dX8_best_22 rfl (lv_at hl 0 rfl) ?_
      refine lv_bipush (v := 12) hx hb dX8_best_23 (by decide) ?_
      obtain ⟨r25, hr25, hf⟩ := bn_e hf
      have hPc := hP.sub (ws' := (wM cs a M)) [0, 1, 2, 3, 4, 5, 6, 7, 8, 9, 10, 11] rfl
      have hDc := hD.sub (ws' := (wM cs a M)) [0, 1, 2, 3, 4, 5, 6, 7, 8, 9, 10, 11] (by decide) rfl
      have hFc := va_free (wc := (wM cs a M)) hD hS hA [0, 1, 2, 3, 4, 5, 6, 7, 8, 9, 10, 11] rfl
      refine va_callv (va_runV (As := [.int ((12 : Int32))]) (rest := []) C (c_X8_goes l dC dI cs a s.heap.size M (12 : Int32) r25 hr25) (cwV 1 hts gX8_best_X8_goes rfl rfl rfl (by decide +kernel) ⟨Nat.le_of_ble_eq_true rfl, Nat.le_of_ble_eq_true rfl⟩) ⟨(fun a U g mk q => ⟨q.1, q.2.1, q.2.2.1, GE.calling q.2.2.2.1, q.2.2.2.2⟩), va_recv hK hPc (ci := 8) (q0 := 0) rfl rfl, (fun U hU hW => ⟨rfl, by rw [hU], by rw [hU]; exact hPc, GE.warm hW G, hDc.weaken (fun _ _ _ _ => trivial)⟩)⟩ rfl rfl hl.1 rfl (lv_room (Nat.le_of_ble_eq_true rfl)) dX8_best_25 ⟨Nat.le_of_ble_eq_true rfl, Nat.le_of_ble_eq_true rfl⟩) hS (fun q _ h => hFc q h) hFc (fun u t H1 locs ht hvm hw hB hz1 hk1 hS => ?_)
      obtain rfl := hw.symm
      obtain ⟨hP1, hD1⟩ := hB
      rw [ht] at hP1
      obtain ⟨hP, hD⟩ := va_join (wr := []) (w1 := (wM cs a r25)) hP hD [0, 1, 2, 3, 4, 5, 6, 7, 8, 9, 10, 11] [] rfl rfl (by decide) (by decide) hk1 hFc hP1 hD1
      generalize H1 = H at hP hS ⊢
      have hP := hP.sub (ws' := (wM cs a r25)) [0, 1, 2, 3, 4, 5, 6, 7, 8, 9, 10, 11] rfl
      have hD := hD.sub (ws' := (wM cs a r25)) [0, 1, 2, 3, 4, 5, 6, 7, 8, 9, 10, 11] (by decide) rfl
      refine lv_aload_n hx hb dX8_best_28 rfl (lv_at hl 0 rfl) ?_
      refine va_get (D := (dC, dI)) (ci := 8) (v := .ref (a 2)) (C := RX8) (T := TX8) (N := 20) hx hb hts in_X8_best_X8 hown hK hP 0 rfl rfl 1 (by decide) (hts (.fieldLink RX8 13 "BackLoansModel" "tried" "[I") (by decide +kernel)) (fun _ h9 => h9) rfl dX8_best_29 ?_
      refine lv_iconst (v := 2) hx hb dX8_best_32 (by decide) ?_
      refine lv_aload_n hx hb dX8_best_33 rfl (lv_at hl 0 rfl) ?_
      refine va_get (D := (dC, dI)) (ci := 8) (v := .ref (a 1)) (C := RX8) (T := TX8) (N := 20) hx hb hts in_X8_best_X8 hown hK hP 0 rfl rfl 0 (by decide) (hts (.fieldLink RX8 7 "BackLoansModel" "now" "[I") (by decide +kernel)) (fun _ h9 => h9) rfl dX8_best_34 ?_
      refine lv_iconst (v := 4) hx hb dX8_best_37 (by decide) ?_
      obtain ⟨hi3, hf⟩ := gi_e hf
      refine va_iald hx hb hK hP 1 0 rfl rfl hi3 dX8_best_38 ?_
      obtain ⟨r39, hr39, hf⟩ := bn_e hf
      have hPc := hP.sub (ws' := (wA cs (a 2) 362 (r25.2.2 1))) [2] rfl
      refine vp_callSi (W.runS (As := [.ref (a 2), .int ((2 : Int32)), .int (((r25.2.2 0) ((4 : Int32)).toNatClampNeg))]) (rest := []) C (c_X8_many l dC dI cs (a 2) (r25.2.2 1) (2 : Int32) ((r25.2.2 0) ((4 : Int32)).toNatClampNeg) r39 hr39) (va_cwS 3 hts gX8_best_X8_many rfl rfl rfl (by decide +kernel) ⟨Nat.le_of_ble_eq_true rfl, Nat.le_of_ble_eq_true rfl⟩) ⟨(fun a U g mk q => ⟨q.1, q.2.1, GE.calling q.2.2⟩), (fun U hU hW => ⟨rfl, by rw [hU]; exact hPc, GE.warm hW G⟩)⟩ rfl rfl hl.1 rfl (lv_room (Nat.le_of_ble_eq_true rfl)) dX8_best_39 ⟨Nat.le_of_ble_eq_true rfl, Nat.le_of_ble_eq_true rfl⟩) (fun qr39 hqr39 => ?_)
      obtain rfl := hqr39.symm
      refine lv_istore_n (lv' := [(3, .int (r39)), (0, .ref (a 0)), (1, .int (x1)), (2, .int (x2))]) hx hb dX8_best_42 rfl hl (by decide) rfl (fun ls hl => ?_)
      refine lv_iconst (v := 0) hx hb dX8_best_43 (by decide) ?_
      refine lv_topi (fun x4_44 ex4_44 => ?_)
      replace hf := lett_s ex4_44 hf
      refine lv_istore (lv' := [(4, .int (x4_44)), (3, .int (r39)), (0, .ref (a 0)), (1, .int (x1)), (2, .int (x2))]) hx hb dX8_best_44 hl (by decide) rfl (fun ls hl => ?_)
      refine lv_iconst (v := 0) hx hb dX8_best_46 (by decide) ?_
      refine lv_topi (fun x5_47 ex5_47 => ?_)
      replace hf := lett_s ex5_47 hf
      refine lv_istore (lv' := [(5, .int (x5_47)), (4, .int (x4_44)), (3, .int (r39)), (0, .ref (a 0)), (1, .int (x1)), (2, .int (x2))]) hx hb dX8_best_47 hl (by decide) rfl (fun ls hl => ?_)
      refine lv_iconst (v := 1) hx hb dX8_best_49 (by decide) ?_
      refine lv_topi (fun x6_50 ex6_50 => ?_)
      replace hf := lett_s ex6_50 hf
      refine lv_istore (lv' := [(6, .int (x6_50)), (5, .int (x5_47)), (4, .int (x4_44)), (3, .int (r39)), (0, .ref (a 0)), (1, .int (x1)), (2, .int (x2))]) hx hb dX8_best_50 hl (by decide) rfl (fun ls hl => ?_)
      exact w_X8_best_52 C G hA hR x1 x2 r39 (fun x4 x5 Mz H locs ls hl hP hD hS hf => b_X8_best_134 C G hA hR x2 x4 x5 Mz _ _ _ hl hP hD hS hf) FU x4_44 x5_47 x6_50 r25 _ _ _ (lv_sub hl [4, 5, 6, 3, 2, 1, 0] rfl) hP hD hS hf
    · replace hf := it_t c2 hf
      exact b_X8_best_17 C G hA hR M _ _ _ (lv_sub hl [0] rfl) hP hD hS hf

theorem in_X8_makes_X8 : ∀ w ∈ wsX80, w ∈ wsX8_makes := by decide +kernel
def f_X8_makes_116 (x1 : Int32) (x2 : Int32) (x3 : Int32) (x4 : Int32) (M : Ms) (K7 : Int32 → Int32 → Int32 → Option Int32) : Option Int32 :=
  lett (x4 + 1) fun x4_116 =>
  K7 x2 x3 x4_116
set_option maxHeartbeats 4000000 in
set_option maxRecDepth 100000 in
theorem b_X8_makes_116 {p : Program} {l : Launch} {e : Env} {s : State} {m : MethodId} {args : Array Value} {below : List Frame} {meth : Method} {c : Code} {Q : State → Prop} {dC : Nat → ClassId} {dI : Nat → Nat → Nat} {cs : Nat → ClassId} {a : Nat → Nat} {res : Int32} (C : CallFix p m c cX8_makes 6 s args wsX8_makes RX8) (G : GE dC dI cs s) (hR : RPz p l e ({ frames := 0, cells := 0, slots := 0, locals := 0 }) s m args below meth c cX8_makes Q res) {M : Ms} (hP : va_P (dC, dI) vwCl (wM cs a M) s.heap) (x1 : Int32) (x2 : Int32) (x3 : Int32) (x4 : Int32) (_ : Ms) {K7 : Int32 → Int32 → Int32 → Option Int32} (hK7 : ∀ (x2 : Int32) (x3 : Int32) (x4 : Int32) (ls : Array Slot), lv_has ls 6 [(0, .ref (a 0)), (1, .int (x1)), (2, .int (x2)), (3, .int (x3)), (4, .int (x4))] → K7 x2 x3 x4 = some res → W p l e ({ frames := 0, cells := 0, slots := 0, locals := 0 }) s m args below meth c s.heap [] 0 0 Q (F0 m 7 ls [])) (ls : Array Slot) (hl : lv_has ls 6 [(0, .ref (a 0)), (1, .int (x1)), (2, .int (x2)), (3, .int (x3)), (4, .int (x4))]) (hf : f_X8_makes_116 x1 x2 x3 x4 M K7 = some res) : W p l e ({ frames := 0, cells := 0, slots := 0, locals := 0 }) s m args below meth c s.heap [] 0 0 Q (F0 m 116 ls []) := by
  obtain ⟨hx, hb, hml, hown, hts⟩ := id C
  obtain ⟨hK, hN⟩ := id G
  unfold f_X8_makes_116 at hf
  obtain ⟨x4_116, ex4_116⟩ : ∃ y : Int32, y = (x4 + 1) := ⟨_, rfl⟩
  replace hf := lett_s ex4_116 hf
  refine lv_iinc (v := x4_116) (lv' := [(4, .int (x4_116)), (0, .ref (a 0)), (1, .int (x1)), (2, .int (x2)), (3, .int (x3))]) hx hb dX8_makes_116 hl (k := 4) rfl (by rw [ex4_116]; rfl) (by decide) rfl (fun ls hl => ?_)
  refine lv_goto (tgt := 7) hx hb dX8_makes_119 (by decide) ?_
  exact hK7 x2 x3 x4_116 _ (lv_sub hl [1, 2, 3, 4, 0] rfl) hf
def f_X8_makes_48 (x1 : Int32) (x3 : Int32) (x4 : Int32) (x5 : Int32) (s0 : Int32) (M : Ms) (K7 : Int32 → Int32 → Int32 → Option Int32) : Option Int32 :=
  gi ((x5 + (3 : Int32))) 362 <|
  if ((M.2.2 0) ((x5 + (3 : Int32))).toNatClampNeg) = (2 : Int32) then (
    gi ((x5 + (1 : Int32))) 362 <|
    gi ((s0 + (1 : Int32))) 362 <|
    if ((M.2.2 0) ((x5 + (1 : Int32))).toNatClampNeg) = ((M.2.2 0) ((s0 + (1 : Int32))).toNatClampNeg) then (
      gi ((x5 + (2 : Int32))) 362 <|
      gi ((s0 + (2 : Int32))) 362 <|
      if ((M.2.2 0) ((x5 + (2 : Int32))).toNatClampNeg) = ((M.2.2 0) ((s0 + (2 : Int32))).toNatClampNeg) then (
        gi ((x5 + (4 : Int32))) 362 <|
        lett (x3 + ((M.2.2 0) ((x5 + (4 : Int32))).toNatClampNeg)) fun x3_115 =>
        f_X8_makes_116 x1 s0 x3_115 x4 M K7
      ) else (
        some (0 : Int32)
      )
    ) else (
      some (0 : Int32)
    )
  ) else (
    some (0 : Int32)
  )
set_option maxHeartbeats 4000000 in
set_option maxRecDepth 100000 in
theorem b_X8_makes_48 {p : Program} {l : Launch} {e : Env} {s : State} {m : MethodId} {args : Array Value} {below : List Frame} {meth : Method} {c : Code} {Q : State → Prop} {dC : Nat → ClassId} {dI : Nat → Nat → Nat} {cs : Nat → ClassId} {a : Nat → Nat} {res : Int32} (C : CallFix p m c cX8_makes 6 s args wsX8_makes RX8) (G : GE dC dI cs s) (hR : RPz p l e ({ frames := 0, cells := 0, slots := 0, locals := 0 }) s m args below meth c cX8_makes Q res) {M : Ms} (hP : va_P (dC, dI) vwCl (wM cs a M) s.heap) (x1 : Int32) (x3 : Int32) (x4 : Int32) (x5 : Int32) (s0 : Int32) (_ : Ms) {K7 : Int32 → Int32 → Int32 → Option Int32} (hK7 : ∀ (x2 : Int32) (x3 : Int32) (x4 : Int32) (ls : Array Slot), lv_has ls 6 [(0, .ref (a 0)), (1, .int (x1)), (2, .int (x2)), (3, .int (x3)), (4, .int (x4))] → K7 x2 x3 x4 = some res → W p l e ({ frames := 0, cells := 0, slots := 0, locals := 0 }) s m args below meth c s.heap [] 0 0 Q (F0 m 7 ls [])) (ls : Array Slot) (hl : lv_has ls 6 [(0, .ref (a 0)), (1, .int (x1)), (3, .int (x3)), (4, .int (x4)), (5, .int (x5))]) (hf : f_X8_makes_48 x1 x3 x4 x5 s0 M K7 = some res) : W p l e ({ frames := 0, cells := 0, slots := 0, locals := 0 }) s m args below meth c s.heap [] 0 0 Q (F0 m 48 ls [.int (s0)]) := by
  obtain ⟨hx, hb, hml, hown, hts⟩ := id C
  obtain ⟨hK, hN⟩ := id G
  unfold f_X8_makes_48 at hf
  refine lv_istore_n (lv' := [(2, .int (s0)), (0, .ref (a 0)), (1, .int (x1)), (3, .int (x3)), (4, .int (x4)), (5, .int (x5))]) hx hb dX8_makes_48 rfl hl (by decide) rfl (fun ls hl => ?_)
  refine lv_aload_n hx hb dX8_makes_49 rfl (lv_at hl 1 rfl) ?_
  refine va_get (D := (dC, dI)) (ci := 8) (v := .ref (a 1)) (C := RX8) (T := TX8) (N := 20) hx hb hts in_X8_makes_X8 hown hK hP 0 rfl rfl 0 (by decide) (hts (.fieldLink RX8 7 "BackLoansModel" "now" "[I") (by decide +kernel)) (fun _ h9 => h9) rfl dX8_makes_50 ?_
  refine lv_iload hx hb dX8_makes_53 (lv_at hl 5 rfl) ?_
  refine lv_iconst (v := 3) hx hb dX8_makes_55 (by decide) ?_
  refine lv_iadd hx hb dX8_makes_56 ?_
  obtain ⟨hi1, hf⟩ := gi_e hf
  refine va_iald hx hb hK hP 1 0 rfl rfl hi1 dX8_makes_57 ?_
  refine lv_iconst (v := 2) hx hb dX8_makes_58 (by decide) ?_
  refine lv_icmp_ne (tgt := 102) hx hb dX8_makes_59 (by decide) (fun c2 => ?_) (fun c2 => ?_)
  · replace hf := it_f c2 hf
    refine lv_iconst (v := 0) hx hb dX8_makes_102 (by decide) ?_
    exact hR _ _ _ dX8_makes_103 (by decide) hf
  · replace hf := it_t c2 hf
    refine lv_aload_n hx hb dX8_makes_62 rfl (lv_at hl 1 rfl) ?_
    refine va_get (D := (dC, dI)) (ci := 8) (v := .ref (a 1)) (C := RX8) (T := TX8) (N := 20) hx hb hts in_X8_makes_X8 hown hK hP 0 rfl rfl 0 (by decide) (hts (.fieldLink RX8 7 "BackLoansModel" "now" "[I") (by decide +kernel)) (fun _ h9 => h9) rfl dX8_makes_63 ?_
    refine lv_iload hx hb dX8_makes_66 (lv_at hl 5 rfl) ?_
    refine lv_iconst (v := 1) hx hb dX8_makes_68 (by decide) ?_
    refine lv_iadd hx hb dX8_makes_69 ?_
    obtain ⟨hi3, hf⟩ := gi_e hf
    refine va_iald hx hb hK hP 1 0 rfl rfl hi3 dX8_makes_70 ?_
    refine lv_aload_n hx hb dX8_makes_71 rfl (lv_at hl 1 rfl) ?_
    refine va_get (D := (dC, dI)) (ci := 8) (v := .ref (a 1)) (C := RX8) (T := TX8) (N := 20) hx hb hts in_X8_makes_X8 hown hK hP 0 rfl rfl 0 (by decide) (hts (.fieldLink RX8 7 "BackLoansModel" "now" "[I") (by decide +kernel)) (fun _ h9 => h9) rfl dX8_makes_72 ?_
    refine lv_iload_n hx hb dX8_makes_75 rfl (lv_at hl 0 rfl) ?_
    refine lv_iconst (v := 1) hx hb dX8_makes_76 (by decide) ?_
    refine lv_iadd hx hb dX8_makes_77 ?_
    obtain ⟨hi4, hf⟩ := gi_e hf
    refine va_iald hx hb hK hP 1 0 rfl rfl hi4 dX8_makes_78 ?_
    refine lv_icmp_ne (tgt := 102) hx hb dX8_makes_79 (by decide) (fun c5 => ?_) (fun c5 => ?_)
    · replace hf := it_f c5 hf
      refine lv_iconst (v := 0) hx hb dX8_makes_102 (by decide) ?_
      exact hR _ _ _ dX8_makes_103 (by decide) hf
    · replace hf := it_t c5 hf
      refine lv_aload_n hx hb dX8_makes_82 rfl (lv_at hl 1 rfl) ?_
      refine va_get (D := (dC, dI)) (ci := 8) (v := .ref (a 1)) (C := RX8) (T := TX8) (N := 20) hx hb hts in_X8_makes_X8 hown hK hP 0 rfl rfl 0 (by decide) (hts (.fieldLink RX8 7 "BackLoansModel" "now" "[I") (by decide +kernel)) (fun _ h9 => h9) rfl dX8_makes_83 ?_
      refine lv_iload hx hb dX8_makes_86 (lv_at hl 5 rfl) ?_
      refine lv_iconst (v := 2) hx hb dX8_makes_88 (by decide) ?_
      refine lv_iadd hx hb dX8_makes_89 ?_
      obtain ⟨hi6, hf⟩ := gi_e hf
      refine va_iald hx hb hK hP 1 0 rfl rfl hi6 dX8_makes_90 ?_
      refine lv_aload_n hx hb dX8_makes_91 rfl (lv_at hl 1 rfl) ?_
      refine va_get (D := (dC, dI)) (ci := 8) (v := .ref (a 1)) (C := RX8) (T := TX8) (N := 20) hx hb hts in_X8_makes_X8 hown hK hP 0 rfl rfl 0 (by decide) (hts (.fieldLink RX8 7 "BackLoansModel" "now" "[I") (by decide +kernel)) (fun _ h9 => h9) rfl dX8_makes_92 ?_
      refine lv_iload_n hx hb dX8_makes_95 rfl (lv_at hl 0 rfl) ?_
      refine lv_iconst (v := 2) hx hb dX8_makes_96 (by decide) ?_
      refine lv_iadd hx hb dX8_makes_97 ?_
      obtain ⟨hi7, hf⟩ := gi_e hf
      refine va_iald hx hb hK hP 1 0 rfl rfl hi7 dX8_makes_98 ?_
      refine lv_icmp_eq (tgt := 104) hx hb dX8_makes_99 (by decide) (fun c8 => ?_) (fun c8 => ?_)
      · replace hf := it_t c8 hf
        refine lv_iload_n hx hb dX8_makes_104 rfl (lv_at hl 3 rfl) ?_
        refine lv_aload_n hx hb dX8_makes_105 rfl (lv_at hl 1 rfl) ?_
        refine va_get (D := (dC, dI)) (ci := 8) (v := .ref (a 1)) (C := RX8) (T := TX8) (N := 20) hx hb hts in_X8_makes_X8 hown hK hP 0 rfl rfl 0 (by decide) (hts (.fieldLink RX8 7 "BackLoansModel" "now" "[I") (by decide +kernel)) (fun _ h9 => h9) rfl dX8_makes_106 ?_
        refine lv_iload hx hb dX8_makes_109 (lv_at hl 5 rfl) ?_
        refine lv_iconst (v := 4) hx hb dX8_makes_111 (by decide) ?_
        refine lv_iadd hx hb dX8_makes_112 ?_
        obtain ⟨hi9, hf⟩ := gi_e hf
        refine va_iald hx hb hK hP 1 0 rfl rfl hi9 dX8_makes_113 ?_
        refine lv_iadd hx hb dX8_makes_114 ?_
        refine lv_topi (fun x3_115 ex3_115 => ?_)
        replace hf := lett_s ex3_115 hf
        refine lv_istore_n (lv' := [(3, .int (x3_115)), (2, .int (s0)), (0, .ref (a 0)), (1, .int (x1)), (4, .int (x4)), (5, .int (x5))]) hx hb dX8_makes_115 rfl hl (by decide) rfl (fun ls hl => ?_)
        exact b_X8_makes_116 C G hR hP x1 s0 x3_115 x4 M hK7 _ (lv_sub hl [2, 3, 1, 0, 4] rfl) hf
      · replace hf := it_f c8 hf
        refine lv_iconst (v := 0) hx hb dX8_makes_102 (by decide) ?_
        exact hR _ _ _ dX8_makes_103 (by decide) hf
def f_X8_makes_7 (x1 : Int32) (x2 : Int32) (x3 : Int32) (x4 : Int32) (M : Ms) (K7 : Int32 → Int32 → Int32 → Option Int32) (K122 : Int32 → Int32 → Option Int32) : Option Int32 :=
  gi ((4 : Int32)) 362 <|
  if ((M.2.2 0) ((4 : Int32)).toNatClampNeg) ≤ x4 then (
    K122 x2 x3
  ) else (
    if ((x1 >>> (x4 &&& 31)) &&& (1 : Int32)) = (1 : Int32) then (
      lett ((26 : Int32) + ((5 : Int32) * x4)) fun x5_35 =>
      if x2 = (-1 : Int32) then (
        f_X8_makes_48 x1 x3 x4 x5_35 x5_35 M K7
      ) else (
        f_X8_makes_48 x1 x3 x4 x5_35 x2 M K7
      )
    ) else (
      f_X8_makes_116 x1 x2 x3 x4 M K7
    )
  )
set_option maxHeartbeats 4000000 in
set_option maxRecDepth 100000 in
theorem b_X8_makes_7 {p : Program} {l : Launch} {e : Env} {s : State} {m : MethodId} {args : Array Value} {below : List Frame} {meth : Method} {c : Code} {Q : State → Prop} {dC : Nat → ClassId} {dI : Nat → Nat → Nat} {cs : Nat → ClassId} {a : Nat → Nat} {res : Int32} (C : CallFix p m c cX8_makes 6 s args wsX8_makes RX8) (G : GE dC dI cs s) (hR : RPz p l e ({ frames := 0, cells := 0, slots := 0, locals := 0 }) s m args below meth c cX8_makes Q res) {M : Ms} (hP : va_P (dC, dI) vwCl (wM cs a M) s.heap) (x1 : Int32) (x2 : Int32) (x3 : Int32) (x4 : Int32) (_ : Ms) {K7 : Int32 → Int32 → Int32 → Option Int32} {K122 : Int32 → Int32 → Option Int32} (hK7 : ∀ (x2 : Int32) (x3 : Int32) (x4 : Int32) (ls : Array Slot), lv_has ls 6 [(0, .ref (a 0)), (1, .int (x1)), (2, .int (x2)), (3, .int (x3)), (4, .int (x4))] → K7 x2 x3 x4 = some res → W p l e ({ frames := 0, cells := 0, slots := 0, locals := 0 }) s m args below meth c s.heap [] 0 0 Q (F0 m 7 ls [])) (hK122 : ∀ (x2 : Int32) (x3 : Int32) (ls : Array Slot), lv_has ls 6 [(0, .ref (a 0)), (2, .int (x2)), (3, .int (x3))] → K122 x2 x3 = some res → W p l e ({ frames := 0, cells := 0, slots := 0, locals := 0 }) s m args below meth c s.heap [] 0 0 Q (F0 m 122 ls [])) (ls : Array Slot) (hl : lv_has ls 6 [(0, .ref (a 0)), (1, .int (x1)), (2, .int (x2)), (3, .int (x3)), (4, .int (x4))]) (hf : f_X8_makes_7 x1 x2 x3 x4 M K7 K122 = some res) : W p l e ({ frames := 0, cells := 0, slots := 0, locals := 0 }) s m args below meth c s.heap [] 0 0 Q (F0 m 7 ls []) := by
  obtain ⟨hx, hb, hml, hown, hts⟩ := id C
  obtain ⟨hK, hN⟩ := id G
  unfold f_X8_makes_7 at hf
  refine lv_iload hx hb dX8_makes_7 (lv_at hl 4 rfl) ?_
  refine lv_aload_n hx hb dX8_makes_9 rfl (lv_at hl 0 rfl) ?_
  refine va_get (D := (dC, dI)) (ci := 8) (v := .ref (a 1)) (C := RX8) (T := TX8) (N := 20) hx hb hts in_X8_makes_X8 hown hK hP 0 rfl rfl 0 (by decide) (hts (.fieldLink RX8 7 "BackLoansModel" "now" "[I") (by decide +kernel)) (fun _ h9 => h9) rfl dX8_makes_10 ?_
  refine lv_iconst (v := 4) hx hb dX8_makes_13 (by decide) ?_
  obtain ⟨hi1, hf⟩ := gi_e hf
  refine va_iald hx hb hK hP 1 0 rfl rfl hi1 dX8_makes_14 ?_
  refine lv_icmp_ge (tgt := 122) hx hb dX8_makes_15 (by decide) (fun c2 => ?_) (fun c2 => ?_)
  · replace hf := it_t c2 hf
    exact hK122 x2 x3 _ (lv_sub hl [0, 2, 3] rfl) hf
  · replace hf := it_f c2 hf
    refine lv_iload_n hx hb dX8_makes_18 rfl (lv_at hl 1 rfl) ?_
    refine lv_iload hx hb dX8_makes_19 (lv_at hl 4 rfl) ?_
    refine lv_ishr hx hb dX8_makes_21 ?_
    refine lv_iconst (v := 1) hx hb dX8_makes_22 (by decide) ?_
    refine lv_iand hx hb dX8_makes_23 ?_
    refine lv_iconst (v := 1) hx hb dX8_makes_24 (by decide) ?_
    refine lv_icmp_ne (tgt := 116) hx hb dX8_makes_25 (by decide) (fun c3 => ?_) (fun c3 => ?_)
    · replace hf := it_f c3 hf
      exact b_X8_makes_116 C G hR hP x1 x2 x3 x4 M hK7 _ (lv_sub hl [0, 1, 2, 3, 4] rfl) hf
    · replace hf := it_t c3 hf
      refine lv_bipush (v := 26) hx hb dX8_makes_28 (by decide) ?_
      refine lv_iconst (v := 5) hx hb dX8_makes_30 (by decide) ?_
      refine lv_iload hx hb dX8_makes_31 (lv_at hl 4 rfl) ?_
      refine lv_imul hx hb dX8_makes_33 ?_
      refine lv_iadd hx hb dX8_makes_34 ?_
      refine lv_topi (fun x5_35 ex5_35 => ?_)
      replace hf := lett_s ex5_35 hf
      refine lv_istore (lv' := [(5, .int (x5_35)), (0, .ref (a 0)), (1, .int (x1)), (2, .int (x2)), (3, .int (x3)), (4, .int (x4))]) hx hb dX8_makes_35 hl (by decide) rfl (fun ls hl => ?_)
      refine lv_iload_n hx hb dX8_makes_37 rfl (lv_at hl 3 rfl) ?_
      refine lv_iconst (v := -1) hx hb dX8_makes_38 (by decide) ?_
      refine lv_icmp_ne (tgt := 47) hx hb dX8_makes_39 (by decide) (fun c4 => ?_) (fun c4 => ?_)
      · replace hf := it_f c4 hf
        refine lv_iload_n hx hb dX8_makes_47 rfl (lv_at hl 3 rfl) ?_
        exact b_X8_makes_48 C G hR hP x1 x3 x4 x5_35 x2 M hK7 _ (lv_sub hl [1, 2, 4, 5, 0] rfl) hf
      · replace hf := it_t c4 hf
        refine lv_iload hx hb dX8_makes_42 (lv_at hl 0 rfl) ?_
        refine lv_goto (tgt := 48) hx hb dX8_makes_44 (by decide) ?_
        exact b_X8_makes_48 C G hR hP x1 x3 x4 x5_35 x5_35 M hK7 _ (lv_sub hl [1, 2, 4, 5, 0] rfl) hf
def l_X8_makes_7 (x1 : Int32) (M : Ms) (K122 : Int32 → Int32 → Option Int32) (n : Nat) (x2 : Int32) (x3 : Int32) (x4 : Int32) : Option Int32 := itr (fun (k : Int32 × Int32 × Int32 → Option Int32) (z : Int32 × Int32 × Int32) => f_X8_makes_7 x1 z.1 z.2.1 z.2.2 M (fun x2 x3 x4 => k (x2, x3, x4)) K122) n (x2, x3, x4)
set_option maxHeartbeats 4000000 in
set_option maxRecDepth 100000 in
theorem w_X8_makes_7 {p : Program} {l : Launch} {e : Env} {s : State} {m : MethodId} {args : Array Value} {below : List Frame} {meth : Method} {c : Code} {Q : State → Prop} {dC : Nat → ClassId} {dI : Nat → Nat → Nat} {cs : Nat → ClassId} {a : Nat → Nat} {res : Int32} (C : CallFix p m c cX8_makes 6 s args wsX8_makes RX8) (G : GE dC dI cs s) (hR : RPz p l e ({ frames := 0, cells := 0, slots := 0, locals := 0 }) s m args below meth c cX8_makes Q res) {M : Ms} (hP : va_P (dC, dI) vwCl (wM cs a M) s.heap) (x1 : Int32) (_ : Ms) {K122 : Int32 → Int32 → Option Int32} (hK122 : ∀ (x2 : Int32) (x3 : Int32) (ls : Array Slot), lv_has ls 6 [(0, .ref (a 0)), (2, .int (x2)), (3, .int (x3))] → K122 x2 x3 = some res → W p l e ({ frames := 0, cells := 0, slots := 0, locals := 0 }) s m args below meth c s.heap [] 0 0 Q (F0 m 122 ls [])) : ∀ (n : Nat) (x2 : Int32) (x3 : Int32) (x4 : Int32) (ls : Array Slot), lv_has ls 6 [(0, .ref (a 0)), (1, .int (x1)), (2, .int (x2)), (3, .int (x3)), (4, .int (x4))] → l_X8_makes_7 x1 M K122 n x2 x3 x4 = some res → W p l e ({ frames := 0, cells := 0, slots := 0, locals := 0 }) s m args below meth c s.heap [] 0 0 Q (F0 m 7 ls []) := by
  intro n
  induction n with
  | zero => intro x2 x3 x4 ls hl hf; exact absurd hf (by simp [l_X8_makes_7, itr])
  | succ n ih =>
    intro x2 x3 x4 ls hl hf
    replace hf : f_X8_makes_7 x1 x2 x3 x4 M (fun x2 x3 x4 => l_X8_makes_7 x1 M K122 n x2 x3 x4) K122 = some res := by rw [← hf]; unfold l_X8_makes_7; rw [itr_s]
    exact b_X8_makes_7 C G hR hP x1 x2 x3 x4 M (K7 := fun x2 x3 x4 => l_X8_makes_7 x1 M K122 n x2 x3 x4) (fun x2 x3 x4 ls hl hf => ih x2 x3 x4 ls hl hf) hK122 ls hl hf
def f_X8_makes_122 (x2 : Int32) (x3 : Int32) (M : Ms)  : Option Int32 :=
  if x2 = (-1 : Int32) then (
    some (0 : Int32)
  ) else (
    gi ((x2 + (2 : Int32))) 362 <|
    if x3 < ((M.2.2 0) ((x2 + (2 : Int32))).toNatClampNeg) then (
      some (0 : Int32)
    ) else (
      some (1 : Int32)
    )
  )
set_option maxHeartbeats 4000000 in
set_option maxRecDepth 100000 in
theorem b_X8_makes_122 {p : Program} {l : Launch} {e : Env} {s : State} {m : MethodId} {args : Array Value} {below : List Frame} {meth : Method} {c : Code} {Q : State → Prop} {dC : Nat → ClassId} {dI : Nat → Nat → Nat} {cs : Nat → ClassId} {a : Nat → Nat} {res : Int32} (C : CallFix p m c cX8_makes 6 s args wsX8_makes RX8) (G : GE dC dI cs s) (hR : RPz p l e ({ frames := 0, cells := 0, slots := 0, locals := 0 }) s m args below meth c cX8_makes Q res) {M : Ms} (hP : va_P (dC, dI) vwCl (wM cs a M) s.heap) (x2 : Int32) (x3 : Int32) (_ : Ms)   (ls : Array Slot) (hl : lv_has ls 6 [(0, .ref (a 0)), (2, .int (x2)), (3, .int (x3))]) (hf : f_X8_makes_122 x2 x3 M = some res) : W p l e ({ frames := 0, cells := 0, slots := 0, locals := 0 }) s m args below meth c s.heap [] 0 0 Q (F0 m 122 ls []) := by
  obtain ⟨hx, hb, hml, hown, hts⟩ := id C
  obtain ⟨hK, hN⟩ := id G
  unfold f_X8_makes_122 at hf
  refine lv_iload_n hx hb dX8_makes_122 rfl (lv_at hl 1 rfl) ?_
  refine lv_iconst (v := -1) hx hb dX8_makes_123 (by decide) ?_
  refine lv_icmp_eq (tgt := 143) hx hb dX8_makes_124 (by decide) (fun c1 => ?_) (fun c1 => ?_)
  · replace hf := it_t c1 hf
    refine lv_iconst (v := 0) hx hb dX8_makes_143 (by decide) ?_
    exact hR _ _ _ dX8_makes_144 (by decide) hf
  · replace hf := it_f c1 hf
    refine lv_iload_n hx hb dX8_makes_127 rfl (lv_at hl 2 rfl) ?_
    refine lv_aload_n hx hb dX8_makes_128 rfl (lv_at hl 0 rfl) ?_
    refine va_get (D := (dC, dI)) (ci := 8) (v := .ref (a 1)) (C := RX8) (T := TX8) (N := 20) hx hb hts in_X8_makes_X8 hown hK hP 0 rfl rfl 0 (by decide) (hts (.fieldLink RX8 7 "BackLoansModel" "now" "[I") (by decide +kernel)) (fun _ h9 => h9) rfl dX8_makes_129 ?_
    refine lv_iload_n hx hb dX8_makes_132 rfl (lv_at hl 1 rfl) ?_
    refine lv_iconst (v := 2) hx hb dX8_makes_133 (by decide) ?_
    refine lv_iadd hx hb dX8_makes_134 ?_
    obtain ⟨hi2, hf⟩ := gi_e hf
    refine va_iald hx hb hK hP 1 0 rfl rfl hi2 dX8_makes_135 ?_
    refine lv_icmp_lt (tgt := 143) hx hb dX8_makes_136 (by decide) (fun c3 => ?_) (fun c3 => ?_)
    · replace hf := it_t c3 hf
      refine lv_iconst (v := 0) hx hb dX8_makes_143 (by decide) ?_
      exact hR _ _ _ dX8_makes_144 (by decide) hf
    · replace hf := it_f c3 hf
      refine lv_iconst (v := 1) hx hb dX8_makes_139 (by decide) ?_
      refine lv_goto (tgt := 144) hx hb dX8_makes_140 (by decide) ?_
      exact hR _ _ _ dX8_makes_144 (by decide) hf
def f_X8_makes (x1 : Int32) (M : Ms) : Option Int32 :=
  lett (-1 : Int32) fun x2_1 =>
  lett (0 : Int32) fun x3_3 =>
  lett (0 : Int32) fun x4_5 =>
  l_X8_makes_7 x1 M (fun x2 x3 => f_X8_makes_122 x2 x3 M) FU x2_1 x3_3 x4_5
set_option maxHeartbeats 4000000 in
set_option maxRecDepth 100000 in
theorem c_X8_makes (l : Launch) (dC : Nat → ClassId) (dI : Nat → Nat → Nat) (cs : Nat → ClassId) (a : Nat → Nat) (M : Ms) (x1 : Int32) (res : Int32) (hf : f_X8_makes x1 M = some res) : Met l yX8_makes wsX8_makes ({ frames := 0, cells := 0, slots := 0, locals := 0 }) (va_Pc [.ref (a 0), .int (x1)] (fun U => va_P (dC, dI) vwCl (wM cs a M) U.heap ∧ GE dC dI cs U)) (vp_Si (fun r => r = res ∧ narrow .boolean (.int r) = .int r)) 0 0 (fun _ => False) := by
  refine Met.ofW (cc := cX8_makes) (maxL := 6) (ret := (some .boolean)) (by decide) rfl ?_
  intro p e s m args below meth c s₁ Bd hml hv
  obtain ⟨rfl, hP, G⟩ := hv
  have hts := atoms_spec (ws := wsX8_makes) Bd.pre
  have hown : s.vm.findClass RX8 = some m.cls := findClass_of_methodNamed Bd.named
  have hlocks := Bd.notSynchronized
  have hx := Bd.exec
  have hb := Bd.bytes
  have hr := Bd.returns
  have C : CallFix p m c cX8_makes 6 s _ wsX8_makes RX8 := ⟨hx, hb, hml, hown, hts⟩
  obtain ⟨hK, hN⟩ := id G
  have hR : RPz p l e ({ frames := 0, cells := 0, slots := 0, locals := 0 }) s m ([.ref (a 0), .int (x1)] : List Value).toArray below meth c cX8_makes (MQ below (vp_Si (fun r => r = res ∧ narrow .boolean (.int r) = .int r)) ([.ref (a 0), .int (x1)] : List Value).toArray s 0 0 (fun _ => False)) res := fun pc ls r dd hn h => W.zret hx hb hr hn (fun t ht hW => ⟨r, rfl, ⟨Option.some.inj h, hn⟩, ht⟩) (fun q hq => by cases hq) dd
  have hl := lv_entry ([.ref (a 0), .int (x1)]) (n := 6) (Nat.le_of_ble_eq_true rfl)
  rw [lg_entry_eq]
  generalize (lg_sl ([.ref (a 0), .int (x1)]) ++ List.replicate (6 - (lg_sl ([.ref (a 0), .int (x1)])).length) Slot.unset).toArray = ls at hl ⊢
  have hl : lv_has ls 6 [(0, .ref (a 0)), (1, .int (x1))] := hl
  unfold f_X8_makes at hf
  refine lv_iconst (v := -1) hx hb dX8_makes_0 (by decide) ?_
  refine lv_topi (fun x2_1 ex2_1 => ?_)
  replace hf := lett_s ex2_1 hf
  refine lv_istore_n (lv' := [(2, .int (x2_1)), (0, .ref (a 0)), (1, .int (x1))]) hx hb dX8_makes_1 rfl hl (by decide) rfl (fun ls hl => ?_)
  refine lv_iconst (v := 0) hx hb dX8_makes_2 (by decide) ?_
  refine lv_topi (fun x3_3 ex3_3 => ?_)
  replace hf := lett_s ex3_3 hf
  refine lv_istore_n (lv' := [(3, .int (x3_3)), (2, .int (x2_1)), (0, .ref (a 0)), (1, .int (x1))]) hx hb dX8_makes_3 rfl hl (by decide) rfl (fun ls hl => ?_)
  refine lv_iconst (v := 0) hx hb dX8_makes_4 (by decide) ?_
  refine lv_topi (fun x4_5 ex4_5 => ?_)
  replace hf := lett_s ex4_5 hf
  refine lv_istore (lv' := [(4, .int (x4_5)), (3, .int (x3_3)), (2, .int (x2_1)), (0, .ref (a 0)), (1, .int (x1))]) hx hb dX8_makes_5 hl (by decide) rfl (fun ls hl => ?_)
  exact w_X8_makes_7 C G hR hP x1 M (fun x2 x3 ls hl hf => b_X8_makes_122 C G hR hP x2 x3 M _ hl hf) FU x2_1 x3_3 x4_5 _ (lv_sub hl [3, 4, 2, 1, 0] rfl) hf

theorem in_X8_joins_X8 : ∀ w ∈ wsX80, w ∈ wsX8_joins := by decide +kernel
def f_X8_joins_55 (x2 : Int32) (s0 : Int32) (M : Ms) (K4 : Int32 → Int32 → Option Int32) : Option Int32 :=
  lett (x2 + 1) fun x2_56 =>
  K4 s0 x2_56
set_option maxHeartbeats 4000000 in
set_option maxRecDepth 100000 in
theorem b_X8_joins_55 {p : Program} {l : Launch} {e : Env} {s : State} {m : MethodId} {args : Array Value} {below : List Frame} {meth : Method} {c : Code} {Q : State → Prop} {dC : Nat → ClassId} {dI : Nat → Nat → Nat} {cs : Nat → ClassId} {a : Nat → Nat} {res : Int32} (C : CallFix p m c cX8_joins 4 s args wsX8_joins RX8) (G : GE dC dI cs s) (hR : RPi p l e ({ frames := 1, cells := 0, slots := 0, locals := 25 }) s m args below meth c cX8_joins Q res) {M : Ms} (hP : va_P (dC, dI) vwCl (wM cs a M) s.heap) (x2 : Int32) (s0 : Int32) (_ : Ms) {K4 : Int32 → Int32 → Option Int32} (hK4 : ∀ (x1 : Int32) (x2 : Int32) (ls : Array Slot), lv_has ls 4 [(0, .ref (a 0)), (1, .int (x1)), (2, .int (x2))] → K4 x1 x2 = some res → W p l e ({ frames := 1, cells := 0, slots := 0, locals := 25 }) s m args below meth c s.heap [] 0 0 Q (F0 m 4 ls [])) (ls : Array Slot) (hl : lv_has ls 4 [(0, .ref (a 0)), (2, .int (x2))]) (hf : f_X8_joins_55 x2 s0 M K4 = some res) : W p l e ({ frames := 1, cells := 0, slots := 0, locals := 25 }) s m args below meth c s.heap [] 0 0 Q (F0 m 55 ls [.int (s0)]) := by
  obtain ⟨hx, hb, hml, hown, hts⟩ := id C
  obtain ⟨hK, hN⟩ := id G
  unfold f_X8_joins_55 at hf
  refine lv_istore_n (lv' := [(1, .int (s0)), (0, .ref (a 0)), (2, .int (x2))]) hx hb dX8_joins_55 rfl hl (by decide) rfl (fun ls hl => ?_)
  obtain ⟨x2_56, ex2_56⟩ : ∃ y : Int32, y = (x2 + 1) := ⟨_, rfl⟩
  replace hf := lett_s ex2_56 hf
  refine lv_iinc (v := x2_56) (lv' := [(2, .int (x2_56)), (1, .int (s0)), (0, .ref (a 0))]) hx hb dX8_joins_56 hl (k := 2) rfl (by rw [ex2_56]; rfl) (by decide) rfl (fun ls hl => ?_)
  refine lv_goto (tgt := 4) hx hb dX8_joins_59 (by decide) ?_
  exact hK4 s0 x2_56 _ (lv_sub hl [2, 1, 0] rfl) hf
def f_X8_joins_54 (x1 : Int32) (x2 : Int32) (M : Ms) (K4 : Int32 → Int32 → Option Int32) : Option Int32 :=
  f_X8_joins_55 x2 x1 M K4
set_option maxHeartbeats 4000000 in
set_option maxRecDepth 100000 in
theorem b_X8_joins_54 {p : Program} {l : Launch} {e : Env} {s : State} {m : MethodId} {args : Array Value} {below : List Frame} {meth : Method} {c : Code} {Q : State → Prop} {dC : Nat → ClassId} {dI : Nat → Nat → Nat} {cs : Nat → ClassId} {a : Nat → Nat} {res : Int32} (C : CallFix p m c cX8_joins 4 s args wsX8_joins RX8) (G : GE dC dI cs s) (hR : RPi p l e ({ frames := 1, cells := 0, slots := 0, locals := 25 }) s m args below meth c cX8_joins Q res) {M : Ms} (hP : va_P (dC, dI) vwCl (wM cs a M) s.heap) (x1 : Int32) (x2 : Int32) (_ : Ms) {K4 : Int32 → Int32 → Option Int32} (hK4 : ∀ (x1 : Int32) (x2 : Int32) (ls : Array Slot), lv_has ls 4 [(0, .ref (a 0)), (1, .int (x1)), (2, .int (x2))] → K4 x1 x2 = some res → W p l e ({ frames := 1, cells := 0, slots := 0, locals := 25 }) s m args below meth c s.heap [] 0 0 Q (F0 m 4 ls [])) (ls : Array Slot) (hl : lv_has ls 4 [(0, .ref (a 0)), (1, .int (x1)), (2, .int (x2))]) (hf : f_X8_joins_54 x1 x2 M K4 = some res) : W p l e ({ frames := 1, cells := 0, slots := 0, locals := 25 }) s m args below meth c s.heap [] 0 0 Q (F0 m 54 ls []) := by
  obtain ⟨hx, hb, hml, hown, hts⟩ := id C
  obtain ⟨hK, hN⟩ := id G
  unfold f_X8_joins_54 at hf
  refine lv_iload_n hx hb dX8_joins_54 rfl (lv_at hl 1 rfl) ?_
  exact b_X8_joins_55 C G hR hP x2 x1 M hK4 _ (lv_sub hl [0, 2] rfl) hf
def f_X8_joins_37 (x1 : Int32) (x2 : Int32) (s0 : Int32) (M : Ms) (K4 : Int32 → Int32 → Option Int32) : Option Int32 :=
  if s0 = 0 then (
    f_X8_joins_54 x1 x2 M K4
  ) else (
    bn (f_X8_makes x2 M) fun r44 =>
    if r44 = 0 then (
      f_X8_joins_54 x1 x2 M K4
    ) else (
      f_X8_joins_55 x2 x2 M K4
    )
  )
set_option maxHeartbeats 4000000 in
set_option maxRecDepth 100000 in
theorem b_X8_joins_37 {p : Program} {l : Launch} {e : Env} {s : State} {m : MethodId} {args : Array Value} {below : List Frame} {meth : Method} {c : Code} {Q : State → Prop} {dC : Nat → ClassId} {dI : Nat → Nat → Nat} {cs : Nat → ClassId} {a : Nat → Nat} {res : Int32} (C : CallFix p m c cX8_joins 4 s args wsX8_joins RX8) (G : GE dC dI cs s) (hR : RPi p l e ({ frames := 1, cells := 0, slots := 0, locals := 25 }) s m args below meth c cX8_joins Q res) {M : Ms} (hP : va_P (dC, dI) vwCl (wM cs a M) s.heap) (x1 : Int32) (x2 : Int32) (s0 : Int32) (_ : Ms) {K4 : Int32 → Int32 → Option Int32} (hK4 : ∀ (x1 : Int32) (x2 : Int32) (ls : Array Slot), lv_has ls 4 [(0, .ref (a 0)), (1, .int (x1)), (2, .int (x2))] → K4 x1 x2 = some res → W p l e ({ frames := 1, cells := 0, slots := 0, locals := 25 }) s m args below meth c s.heap [] 0 0 Q (F0 m 4 ls [])) (ls : Array Slot) (hl : lv_has ls 4 [(0, .ref (a 0)), (1, .int (x1)), (2, .int (x2))]) (hf : f_X8_joins_37 x1 x2 s0 M K4 = some res) : W p l e ({ frames := 1, cells := 0, slots := 0, locals := 25 }) s m args below meth c s.heap [] 0 0 Q (F0 m 37 ls [.int (s0)]) := by
  obtain ⟨hx, hb, hml, hown, hts⟩ := id C
  obtain ⟨hK, hN⟩ := id G
  unfold f_X8_joins_37 at hf
  refine lv_istore_n (lv' := [(3, .int (s0)), (0, .ref (a 0)), (1, .int (x1)), (2, .int (x2))]) hx hb dX8_joins_37 rfl hl (by decide) rfl (fun ls hl => ?_)
  refine lv_iload_n hx hb dX8_joins_38 rfl (lv_at hl 0 rfl) ?_
  refine lv_if_eq (tgt := 54) hx hb dX8_joins_39 (by decide) (fun c1 => ?_) (fun c1 => ?_)
  · replace hf := it_t c1 hf
    exact b_X8_joins_54 C G hR hP x1 x2 M hK4 _ (lv_sub hl [1, 2, 3] rfl) hf
  · replace hf := it_f c1 hf
    refine lv_aload_n hx hb dX8_joins_42 rfl (lv_at hl 1 rfl) ?_
    refine lv_iload_n hx hb dX8_joins_43 rfl (lv_at hl 3 rfl) ?_
    obtain ⟨r44, hr44, hf⟩ := bn_e hf
    have hPc := hP.sub (ws' := (wM cs a M)) [0, 1, 2, 3, 4, 5, 6, 7, 8, 9, 10, 11] rfl
    refine vp_callSi (W.runV (As := [.int (x2)]) (rest := []) C (c_X8_makes l dC dI cs a M x2 r44 hr44) (cwV 1 hts gX8_joins_X8_makes rfl rfl rfl (by decide +kernel) ⟨Nat.le_of_ble_eq_true rfl, Nat.le_of_ble_eq_true rfl⟩) ⟨(fun a U g mk q => ⟨q.1, q.2.1, GE.calling q.2.2⟩), va_recv hK hPc (ci := 8) (q0 := 0) rfl rfl, (fun U hU hW => ⟨rfl, by rw [hU]; exact hPc, GE.warm hW G⟩)⟩ rfl rfl hl.1 rfl (lv_room (Nat.le_of_ble_eq_true rfl)) dX8_joins_44 ⟨Nat.le_of_ble_eq_true rfl, Nat.le_of_ble_eq_true rfl⟩) (fun qr44 hqr44 => ?_)
    obtain ⟨hqr44, hnr44⟩ := hqr44
    obtain rfl := hqr44.symm
    refine lv_if_eq (tgt := 54) hx hb dX8_joins_47 (by decide) (fun c2 => ?_) (fun c2 => ?_)
    · replace hf := it_t c2 hf
      exact b_X8_joins_54 C G hR hP x1 x2 M hK4 _ (lv_sub hl [1, 2, 3] rfl) hf
    · replace hf := it_f c2 hf
      refine lv_iload_n hx hb dX8_joins_50 rfl (lv_at hl 3 rfl) ?_
      refine lv_goto (tgt := 55) hx hb dX8_joins_51 (by decide) ?_
      exact b_X8_joins_55 C G hR hP x2 x2 M hK4 _ (lv_sub hl [1, 3] rfl) hf
def f_X8_joins_32 (x1 : Int32) (x2 : Int32) (M : Ms) (K4 : Int32 → Int32 → Option Int32) : Option Int32 :=
  f_X8_joins_37 x1 x2 (1 : Int32) M K4
set_option maxHeartbeats 4000000 in
set_option maxRecDepth 100000 in
theorem b_X8_joins_32 {p : Program} {l : Launch} {e : Env} {s : State} {m : MethodId} {args : Array Value} {below : List Frame} {meth : Method} {c : Code} {Q : State → Prop} {dC : Nat → ClassId} {dI : Nat → Nat → Nat} {cs : Nat → ClassId} {a : Nat → Nat} {res : Int32} (C : CallFix p m c cX8_joins 4 s args wsX8_joins RX8) (G : GE dC dI cs s) (hR : RPi p l e ({ frames := 1, cells := 0, slots := 0, locals := 25 }) s m args below meth c cX8_joins Q res) {M : Ms} (hP : va_P (dC, dI) vwCl (wM cs a M) s.heap) (x1 : Int32) (x2 : Int32) (_ : Ms) {K4 : Int32 → Int32 → Option Int32} (hK4 : ∀ (x1 : Int32) (x2 : Int32) (ls : Array Slot), lv_has ls 4 [(0, .ref (a 0)), (1, .int (x1)), (2, .int (x2))] → K4 x1 x2 = some res → W p l e ({ frames := 1, cells := 0, slots := 0, locals := 25 }) s m args below meth c s.heap [] 0 0 Q (F0 m 4 ls [])) (ls : Array Slot) (hl : lv_has ls 4 [(0, .ref (a 0)), (1, .int (x1)), (2, .int (x2))]) (hf : f_X8_joins_32 x1 x2 M K4 = some res) : W p l e ({ frames := 1, cells := 0, slots := 0, locals := 25 }) s m args below meth c s.heap [] 0 0 Q (F0 m 32 ls []) := by
  obtain ⟨hx, hb, hml, hown, hts⟩ := id C
  obtain ⟨hK, hN⟩ := id G
  unfold f_X8_joins_32 at hf
  refine lv_iconst (v := 1) hx hb dX8_joins_32 (by decide) ?_
  refine lv_goto (tgt := 37) hx hb dX8_joins_33 (by decide) ?_
  exact b_X8_joins_37 C G hR hP x1 x2 (1 : Int32) M hK4 _ (lv_sub hl [0, 1, 2] rfl) hf
def f_X8_joins_4 (x1 : Int32) (x2 : Int32) (M : Ms) (K4 : Int32 → Int32 → Option Int32) : Option Int32 :=
  gi ((4 : Int32)) 362 <|
  if ((1 : Int32) <<< (((M.2.2 0) ((4 : Int32)).toNatClampNeg) &&& 31)) ≤ x2 then (
    some x1
  ) else (
    if x1 = (-1 : Int32) then (
      f_X8_joins_32 x1 x2 M K4
    ) else (
      bn (f_X8_ones x2) fun r22 =>
      bn (f_X8_ones x1) fun r26 =>
      if r26 ≤ r22 then (
        f_X8_joins_37 x1 x2 (0 : Int32) M K4
      ) else (
        f_X8_joins_32 x1 x2 M K4
      )
    )
  )
set_option maxHeartbeats 4000000 in
set_option maxRecDepth 100000 in
theorem b_X8_joins_4 {p : Program} {l : Launch} {e : Env} {s : State} {m : MethodId} {args : Array Value} {below : List Frame} {meth : Method} {c : Code} {Q : State → Prop} {dC : Nat → ClassId} {dI : Nat → Nat → Nat} {cs : Nat → ClassId} {a : Nat → Nat} {res : Int32} (C : CallFix p m c cX8_joins 4 s args wsX8_joins RX8) (G : GE dC dI cs s) (hR : RPi p l e ({ frames := 1, cells := 0, slots := 0, locals := 25 }) s m args below meth c cX8_joins Q res) {M : Ms} (hP : va_P (dC, dI) vwCl (wM cs a M) s.heap) (x1 : Int32) (x2 : Int32) (_ : Ms) {K4 : Int32 → Int32 → Option Int32} (hK4 : ∀ (x1 : Int32) (x2 : Int32) (ls : Array Slot), lv_has ls 4 [(0, .ref (a 0)), (1, .int (x1)), (2, .int (x2))] → K4 x1 x2 = some res → W p l e ({ frames := 1, cells := 0, slots := 0, locals := 25 }) s m args below meth c s.heap [] 0 0 Q (F0 m 4 ls [])) (ls : Array Slot) (hl : lv_has ls 4 [(0, .ref (a 0)), (1, .int (x1)), (2, .int (x2))]) (hf : f_X8_joins_4 x1 x2 M K4 = some res) : W p l e ({ frames := 1, cells := 0, slots := 0, locals := 25 }) s m args below meth c s.heap [] 0 0 Q (F0 m 4 ls []) := by
  obtain ⟨hx, hb, hml, hown, hts⟩ := id C
  obtain ⟨hK, hN⟩ := id G
  unfold f_X8_joins_4 at hf
  refine lv_iload_n hx hb dX8_joins_4 rfl (lv_at hl 2 rfl) ?_
  refine lv_iconst (v := 1) hx hb dX8_joins_5 (by decide) ?_
  refine lv_aload_n hx hb dX8_joins_6 rfl (lv_at hl 0 rfl) ?_
  refine va_get (D := (dC, dI)) (ci := 8) (v := .ref (a 1)) (C := RX8) (T := TX8) (N := 20) hx hb hts in_X8_joins_X8 hown hK hP 0 rfl rfl 0 (by decide) (hts (.fieldLink RX8 7 "BackLoansModel" "now" "[I") (by decide +kernel)) (fun _ h9 => h9) rfl dX8_joins_7 ?_
  refine lv_iconst (v := 4) hx hb dX8_joins_10 (by decide) ?_
  obtain ⟨hi1, hf⟩ := gi_e hf
  refine va_iald hx hb hK hP 1 0 rfl rfl hi1 dX8_joins_11 ?_
  refine lv_ishl hx hb dX8_joins_12 ?_
  refine lv_icmp_ge (tgt := 62) hx hb dX8_joins_13 (by decide) (fun c2 => ?_) (fun c2 => ?_)
  · replace hf := it_t c2 hf
    refine lv_iload_n hx hb dX8_joins_62 rfl (lv_at hl 1 rfl) ?_
    exact hR _ _ _ dX8_joins_63 hf
  · replace hf := it_f c2 hf
    refine lv_iload_n hx hb dX8_joins_16 rfl (lv_at hl 1 rfl) ?_
    refine lv_iconst (v := -1) hx hb dX8_joins_17 (by decide) ?_
    refine lv_icmp_eq (tgt := 32) hx hb dX8_joins_18 (by decide) (fun c3 => ?_) (fun c3 => ?_)
    · replace hf := it_t c3 hf
      exact b_X8_joins_32 C G hR hP x1 x2 M hK4 _ (lv_sub hl [0, 1, 2] rfl) hf
    · replace hf := it_f c3 hf
      refine lv_iload_n hx hb dX8_joins_21 rfl (lv_at hl 2 rfl) ?_
      obtain ⟨r22, hr22, hf⟩ := bn_e hf
      have hPc := hP.sub (ws' := ([] : va_W)) [] rfl
      refine vp_callSi (W.runS (As := [.int (x2)]) (rest := []) C (c_X8_ones l dC dI cs x2 r22 hr22) (va_cwS 1 hts gX8_joins_X8_ones rfl rfl rfl (by decide +kernel) ⟨Nat.le_of_ble_eq_true rfl, Nat.le_of_ble_eq_true rfl⟩) ⟨(fun a U g mk q => ⟨q.1, q.2.1, GE.calling q.2.2⟩), (fun U hU hW => ⟨rfl, by rw [hU]; exact hPc, GE.warm hW G⟩)⟩ rfl rfl hl.1 rfl (lv_room (Nat.le_of_ble_eq_true rfl)) dX8_joins_22 ⟨Nat.le_of_ble_eq_true rfl, Nat.le_of_ble_eq_true rfl⟩) (fun qr22 hqr22 => ?_)
      obtain rfl := hqr22.symm
      refine lv_iload_n hx hb dX8_joins_25 rfl (lv_at hl 1 rfl) ?_
      obtain ⟨r26, hr26, hf⟩ := bn_e hf
      have hPc := hP.sub (ws' := ([] : va_W)) [] rfl
      refine vp_callSi (W.runS (As := [.int (x1)]) (rest := [.int (r22)]) C (c_X8_ones l dC dI cs x1 r26 hr26) (va_cwS 1 hts gX8_joins_X8_ones rfl rfl rfl (by decide +kernel) ⟨Nat.le_of_ble_eq_true rfl, Nat.le_of_ble_eq_true rfl⟩) ⟨(fun a U g mk q => ⟨q.1, q.2.1, GE.calling q.2.2⟩), (fun U hU hW => ⟨rfl, by rw [hU]; exact hPc, GE.warm hW G⟩)⟩ rfl rfl hl.1 rfl (lv_room (Nat.le_of_ble_eq_true rfl)) dX8_joins_26 ⟨Nat.le_of_ble_eq_true rfl, Nat.le_of_ble_eq_true rfl⟩) (fun qr26 hqr26 => ?_)
      obtain rfl := hqr26.symm
      refine lv_icmp_ge (tgt := 36) hx hb dX8_joins_29 (by decide) (fun c4 => ?_) (fun c4 => ?_)
      · replace hf := it_t c4 hf
        refine lv_iconst (v := 0) hx hb dX8_joins_36 (by decide) ?_
        exact b_X8_joins_37 C G hR hP x1 x2 (0 : Int32) M hK4 _ (lv_sub hl [0, 1, 2] rfl) hf
      · replace hf := it_f c4 hf
        exact b_X8_joins_32 C G hR hP x1 x2 M hK4 _ (lv_sub hl [0, 1, 2] rfl) hf
def l_X8_joins_4 (M : Ms)  (n : Nat) (x1 : Int32) (x2 : Int32) : Option Int32 := itr (fun (k : Int32 × Int32 → Option Int32) (z : Int32 × Int32) => f_X8_joins_4 z.1 z.2 M (fun x1 x2 => k (x1, x2))) n (x1, x2)
set_option maxHeartbeats 4000000 in
set_option maxRecDepth 100000 in
theorem w_X8_joins_4 {p : Program} {l : Launch} {e : Env} {s : State} {m : MethodId} {args : Array Value} {below : List Frame} {meth : Method} {c : Code} {Q : State → Prop} {dC : Nat → ClassId} {dI : Nat → Nat → Nat} {cs : Nat → ClassId} {a : Nat → Nat} {res : Int32} (C : CallFix p m c cX8_joins 4 s args wsX8_joins RX8) (G : GE dC dI cs s) (hR : RPi p l e ({ frames := 1, cells := 0, slots := 0, locals := 25 }) s m args below meth c cX8_joins Q res) {M : Ms} (hP : va_P (dC, dI) vwCl (wM cs a M) s.heap)  (_ : Ms)   : ∀ (n : Nat) (x1 : Int32) (x2 : Int32) (ls : Array Slot), lv_has ls 4 [(0, .ref (a 0)), (1, .int (x1)), (2, .int (x2))] → l_X8_joins_4 M n x1 x2 = some res → W p l e ({ frames := 1, cells := 0, slots := 0, locals := 25 }) s m args below meth c s.heap [] 0 0 Q (F0 m 4 ls []) := by
  intro n
  induction n with
  | zero => intro x1 x2 ls hl hf; exact absurd hf (by simp [l_X8_joins_4, itr])
  | succ n ih =>
    intro x1 x2 ls hl hf
    replace hf : f_X8_joins_4 x1 x2 M (fun x1 x2 => l_X8_joins_4 M n x1 x2) = some res := by rw [← hf]; unfold l_X8_joins_4; rw [itr_s]
    exact b_X8_joins_4 C G hR hP x1 x2 M (K4 := fun x1 x2 => l_X8_joins_4 M n x1 x2) (fun x1 x2 ls hl hf => ih x1 x2 ls hl hf) ls hl hf
def f_X8_joins  (M : Ms) : Option Int32 :=
  lett (-1 : Int32) fun x1_1 =>
  lett (1 : Int32) fun x2_3 =>
  l_X8_joins_4 M FU x1_1 x2_3
set_option maxHeartbeats 4000000 in
set_option maxRecDepth 100000 in
theorem c_X8_joins (l : Launch) (dC : Nat → ClassId) (dI : Nat → Nat → Nat) (cs : Nat → ClassId) (a : Nat → Nat) (M : Ms)  (res : Int32) (hf : f_X8_joins M = some res) : Met l yX8_joins wsX8_joins ({ frames := 1, cells := 0, slots := 0, locals := 25 }) (va_Pc [.ref (a 0)] (fun U => va_P (dC, dI) vwCl (wM cs a M) U.heap ∧ GE dC dI cs U)) (vp_Si (fun r => r = res)) 0 0 (fun _ => False) := by
  refine Met.ofW (cc := cX8_joins) (maxL := 4) (ret := (some .int)) (by decide) rfl ?_
  intro p e s m args below meth c s₁ Bd hml hv
  obtain ⟨rfl, hP, G⟩ := hv
  have hts := atoms_spec (ws := wsX8_joins) Bd.pre
  have hown : s.vm.findClass RX8 = some m.cls := findClass_of_methodNamed Bd.named
  have hlocks := Bd.notSynchronized
  have hx := Bd.exec
  have hb := Bd.bytes
  have hr := Bd.returns
  have C : CallFix p m c cX8_joins 4 s _ wsX8_joins RX8 := ⟨hx, hb, hml, hown, hts⟩
  obtain ⟨hK, hN⟩ := id G
  have hR : RPi p l e ({ frames := 1, cells := 0, slots := 0, locals := 25 }) s m ([.ref (a 0)] : List Value).toArray below meth c cX8_joins (MQ below (vp_Si (fun r => r = res)) ([.ref (a 0)] : List Value).toArray s 0 0 (fun _ => False)) res := fun pc ls r dd h => W.iret hx hb hr (fun t ht hW => ⟨r, rfl, Option.some.inj h, ht⟩) (fun q hq => by cases hq) dd
  have hl := lv_entry ([.ref (a 0)]) (n := 4) (Nat.le_of_ble_eq_true rfl)
  rw [lg_entry_eq]
  generalize (lg_sl ([.ref (a 0)]) ++ List.replicate (4 - (lg_sl ([.ref (a 0)])).length) Slot.unset).toArray = ls at hl ⊢
  have hl : lv_has ls 4 [(0, .ref (a 0))] := hl
  unfold f_X8_joins at hf
  refine lv_iconst (v := -1) hx hb dX8_joins_0 (by decide) ?_
  refine lv_topi (fun x1_1 ex1_1 => ?_)
  replace hf := lett_s ex1_1 hf
  refine lv_istore_n (lv' := [(1, .int (x1_1)), (0, .ref (a 0))]) hx hb dX8_joins_1 rfl hl (by decide) rfl (fun ls hl => ?_)
  refine lv_iconst (v := 1) hx hb dX8_joins_2 (by decide) ?_
  refine lv_topi (fun x2_3 ex2_3 => ?_)
  replace hf := lett_s ex2_3 hf
  refine lv_istore_n (lv' := [(2, .int (x2_3)), (1, .int (x1_1)), (0, .ref (a 0))]) hx hb dX8_joins_3 rfl hl (by decide) rfl (fun ls hl => ?_)
  exact w_X8_joins_4 C G hR hP M FU x1_1 x2_3 _ (lv_sub hl [2, 1, 0] rfl) hf

theorem in_X8_given_X8 : ∀ w ∈ wsX80, w ∈ wsX8_given := by decide +kernel
def f_X8_given (x1 : Int32) (M : Ms) : Option Int32 :=
  gi ((((26 : Int32) + ((5 : Int32) * x1)) + (1 : Int32))) 362 <|
  gi ((((26 : Int32) + ((5 : Int32) * x1)) + (4 : Int32))) 362 <|
  some (((M.2.2 0) ((((26 : Int32) + ((5 : Int32) * x1)) + (1 : Int32))).toNatClampNeg) * ((M.2.2 0) ((((26 : Int32) + ((5 : Int32) * x1)) + (4 : Int32))).toNatClampNeg))
set_option maxHeartbeats 4000000 in
set_option maxRecDepth 100000 in
theorem c_X8_given (l : Launch) (dC : Nat → ClassId) (dI : Nat → Nat → Nat) (cs : Nat → ClassId) (a : Nat → Nat) (M : Ms) (x1 : Int32) (res : Int32) (hf : f_X8_given x1 M = some res) : Met l yX8_given wsX8_given ({ frames := 0, cells := 0, slots := 0, locals := 0 }) (va_Pc [.ref (a 0), .int (x1)] (fun U => va_P (dC, dI) vwCl (wM cs a M) U.heap ∧ GE dC dI cs U)) (vp_Si (fun r => r = res)) 0 0 (fun _ => False) := by
  refine Met.ofW (cc := cX8_given) (maxL := 2) (ret := (some .int)) (by decide) rfl ?_
  intro p e s m args below meth c s₁ Bd hml hv
  obtain ⟨rfl, hP, G⟩ := hv
  have hts := atoms_spec (ws := wsX8_given) Bd.pre
  have hown : s.vm.findClass RX8 = some m.cls := findClass_of_methodNamed Bd.named
  have hlocks := Bd.notSynchronized
  have hx := Bd.exec
  have hb := Bd.bytes
  have hr := Bd.returns
  have C : CallFix p m c cX8_given 2 s _ wsX8_given RX8 := ⟨hx, hb, hml, hown, hts⟩
  obtain ⟨hK, hN⟩ := id G
  have hR : RPi p l e ({ frames := 0, cells := 0, slots := 0, locals := 0 }) s m ([.ref (a 0), .int (x1)] : List Value).toArray below meth c cX8_given (MQ below (vp_Si (fun r => r = res)) ([.ref (a 0), .int (x1)] : List Value).toArray s 0 0 (fun _ => False)) res := fun pc ls r dd h => W.iret hx hb hr (fun t ht hW => ⟨r, rfl, Option.some.inj h, ht⟩) (fun q hq => by cases hq) dd
  have hl := lv_entry ([.ref (a 0), .int (x1)]) (n := 2) (Nat.le_of_ble_eq_true rfl)
  rw [lg_entry_eq]
  generalize (lg_sl ([.ref (a 0), .int (x1)]) ++ List.replicate (2 - (lg_sl ([.ref (a 0), .int (x1)])).length) Slot.unset).toArray = ls at hl ⊢
  have hl : lv_has ls 2 [(0, .ref (a 0)), (1, .int (x1))] := hl
  unfold f_X8_given at hf
  refine lv_aload_n hx hb dX8_given_0 rfl (lv_at hl 0 rfl) ?_
  refine va_get (D := (dC, dI)) (ci := 8) (v := .ref (a 1)) (C := RX8) (T := TX8) (N := 20) hx hb hts in_X8_given_X8 hown hK hP 0 rfl rfl 0 (by decide) (hts (.fieldLink RX8 7 "BackLoansModel" "now" "[I") (by decide +kernel)) (fun _ h9 => h9) rfl dX8_given_1 ?_
  refine lv_bipush (v := 26) hx hb dX8_given_4 (by decide) ?_
  refine lv_iconst (v := 5) hx hb dX8_given_6 (by decide) ?_
  refine lv_iload_n hx hb dX8_given_7 rfl (lv_at hl 1 rfl) ?_
  refine lv_imul hx hb dX8_given_8 ?_
  refine lv_iadd hx hb dX8_given_9 ?_
  refine lv_iconst (v := 1) hx hb dX8_given_10 (by decide) ?_
  refine lv_iadd hx hb dX8_given_11 ?_
  obtain ⟨hi1, hf⟩ := gi_e hf
  refine va_iald hx hb hK hP 1 0 rfl rfl hi1 dX8_given_12 ?_
  refine lv_aload_n hx hb dX8_given_13 rfl (lv_at hl 0 rfl) ?_
  refine va_get (D := (dC, dI)) (ci := 8) (v := .ref (a 1)) (C := RX8) (T := TX8) (N := 20) hx hb hts in_X8_given_X8 hown hK hP 0 rfl rfl 0 (by decide) (hts (.fieldLink RX8 7 "BackLoansModel" "now" "[I") (by decide +kernel)) (fun _ h9 => h9) rfl dX8_given_14 ?_
  refine lv_bipush (v := 26) hx hb dX8_given_17 (by decide) ?_
  refine lv_iconst (v := 5) hx hb dX8_given_19 (by decide) ?_
  refine lv_iload_n hx hb dX8_given_20 rfl (lv_at hl 1 rfl) ?_
  refine lv_imul hx hb dX8_given_21 ?_
  refine lv_iadd hx hb dX8_given_22 ?_
  refine lv_iconst (v := 4) hx hb dX8_given_23 (by decide) ?_
  refine lv_iadd hx hb dX8_given_24 ?_
  obtain ⟨hi2, hf⟩ := gi_e hf
  refine va_iald hx hb hK hP 1 0 rfl rfl hi2 dX8_given_25 ?_
  refine lv_imul hx hb dX8_given_26 ?_
  exact hR _ _ _ dX8_given_27 hf

theorem in_X8_wants_X8 : ∀ w ∈ wsX80, w ∈ wsX8_wants := by decide +kernel
def f_X8_wants_39 (x1 : Int32) (M : Ms)  : Option Int32 :=
  bn (f_X8_given x1 M) fun r41 =>
  some r41
set_option maxHeartbeats 4000000 in
set_option maxRecDepth 100000 in
theorem b_X8_wants_39 {p : Program} {l : Launch} {e : Env} {s : State} {m : MethodId} {args : Array Value} {below : List Frame} {meth : Method} {c : Code} {Q : State → Prop} {dC : Nat → ClassId} {dI : Nat → Nat → Nat} {cs : Nat → ClassId} {a : Nat → Nat} {res : Int32} (C : CallFix p m c cX8_wants 3 s args wsX8_wants RX8) (G : GE dC dI cs s) (hR : RPi p l e ({ frames := 1, cells := 0, slots := 0, locals := 22 }) s m args below meth c cX8_wants Q res) {M : Ms} (hP : va_P (dC, dI) vwCl (wM cs a M) s.heap) (x1 : Int32) (_ : Ms)   (ls : Array Slot) (hl : lv_has ls 3 [(0, .ref (a 0)), (1, .int (x1))]) (hf : f_X8_wants_39 x1 M = some res) : W p l e ({ frames := 1, cells := 0, slots := 0, locals := 22 }) s m args below meth c s.heap [] 0 0 Q (F0 m 39 ls []) := by
  obtain ⟨hx, hb, hml, hown, hts⟩ := id C
  obtain ⟨hK, hN⟩ := id G
  unfold f_X8_wants_39 at hf
  refine lv_aload_n hx hb dX8_wants_39 rfl (lv_at hl 0 rfl) ?_
  refine lv_iload_n hx hb dX8_wants_40 rfl (lv_at hl 1 rfl) ?_
  obtain ⟨r41, hr41, hf⟩ := bn_e hf
  have hPc := hP.sub (ws' := (wM cs a M)) [0, 1, 2, 3, 4, 5, 6, 7, 8, 9, 10, 11] rfl
  refine vp_callSi (W.runV (As := [.int (x1)]) (rest := []) C (c_X8_given l dC dI cs a M x1 r41 hr41) (cwV 1 hts gX8_wants_X8_given rfl rfl rfl (by decide +kernel) ⟨Nat.le_of_ble_eq_true rfl, Nat.le_of_ble_eq_true rfl⟩) ⟨(fun a U g mk q => ⟨q.1, q.2.1, GE.calling q.2.2⟩), va_recv hK hPc (ci := 8) (q0 := 0) rfl rfl, (fun U hU hW => ⟨rfl, by rw [hU]; exact hPc, GE.warm hW G⟩)⟩ rfl rfl hl.1 rfl (lv_room (Nat.le_of_ble_eq_true rfl)) dX8_wants_41 ⟨Nat.le_of_ble_eq_true rfl, Nat.le_of_ble_eq_true rfl⟩) (fun qr41 hqr41 => ?_)
  obtain rfl := hqr41.symm
  refine lv_goto (tgt := 48) hx hb dX8_wants_44 (by decide) ?_
  exact hR _ _ _ dX8_wants_48 hf
def f_X8_wants (x1 : Int32) (M : Ms) : Option Int32 :=
  gi ((((26 : Int32) + ((5 : Int32) * x1)) + (3 : Int32))) 362 <|
  lett ((M.2.2 0) ((((26 : Int32) + ((5 : Int32) * x1)) + (3 : Int32))).toNatClampNeg) fun x2_13 =>
  if x2_13 = (3 : Int32) then (
    bn (f_X8_whole x1 (M.2.2 0)) fun r24 =>
    some r24
  ) else (
    if x2_13 = 0 then (
      f_X8_wants_39 x1 M
    ) else (
      if x2_13 = (2 : Int32) then (
        f_X8_wants_39 x1 M
      ) else (
        some (0 : Int32)
      )
    )
  )
set_option maxHeartbeats 4000000 in
set_option maxRecDepth 100000 in
theorem c_X8_wants (l : Launch) (dC : Nat → ClassId) (dI : Nat → Nat → Nat) (cs : Nat → ClassId) (a : Nat → Nat) (M : Ms) (x1 : Int32) (res : Int32) (hf : f_X8_wants x1 M = some res) : Met l yX8_wants wsX8_wants ({ frames := 1, cells := 0, slots := 0, locals := 22 }) (va_Pc [.ref (a 0), .int (x1)] (fun U => va_P (dC, dI) vwCl (wM cs a M) U.heap ∧ GE dC dI cs U)) (vp_Si (fun r => r = res)) 0 0 (fun _ => False) := by
  refine Met.ofW (cc := cX8_wants) (maxL := 3) (ret := (some .int)) (by decide) rfl ?_
  intro p e s m args below meth c s₁ Bd hml hv
  obtain ⟨rfl, hP, G⟩ := hv
  have hts := atoms_spec (ws := wsX8_wants) Bd.pre
  have hown : s.vm.findClass RX8 = some m.cls := findClass_of_methodNamed Bd.named
  have hlocks := Bd.notSynchronized
  have hx := Bd.exec
  have hb := Bd.bytes
  have hr := Bd.returns
  have C : CallFix p m c cX8_wants 3 s _ wsX8_wants RX8 := ⟨hx, hb, hml, hown, hts⟩
  obtain ⟨hK, hN⟩ := id G
  have hR : RPi p l e ({ frames := 1, cells := 0, slots := 0, locals := 22 }) s m ([.ref (a 0), .int (x1)] : List Value).toArray below meth c cX8_wants (MQ below (vp_Si (fun r => r = res)) ([.ref (a 0), .int (x1)] : List Value).toArray s 0 0 (fun _ => False)) res := fun pc ls r dd h => W.iret hx hb hr (fun t ht hW => ⟨r, rfl, Option.some.inj h, ht⟩) (fun q hq => by cases hq) dd
  have hl := lv_entry ([.ref (a 0), .int (x1)]) (n := 3) (Nat.le_of_ble_eq_true rfl)
  rw [lg_entry_eq]
  generalize (lg_sl ([.ref (a 0), .int (x1)]) ++ List.replicate (3 - (lg_sl ([.ref (a 0), .int (x1)])).length) Slot.unset).toArray = ls at hl ⊢
  have hl : lv_has ls 3 [(0, .ref (a 0)), (1, .int (x1))] := hl
  unfold f_X8_wants at hf
  refine lv_aload_n hx hb dX8_wants_0 rfl (lv_at hl 0 rfl) ?_
  refine va_get (D := (dC, dI)) (ci := 8) (v := .ref (a 1)) (C := RX8) (T := TX8) (N := 20) hx hb hts in_X8_wants_X8 hown hK hP 0 rfl rfl 0 (by decide) (hts (.fieldLink RX8 7 "BackLoansModel" "now" "[I") (by decide +kernel)) (fun _ h9 => h9) rfl dX8_wants_1 ?_
  refine lv_bipush (v := 26) hx hb dX8_wants_4 (by decide) ?_
  refine lv_iconst (v := 5) hx hb dX8_wants_6 (by decide) ?_
  refine lv_iload_n hx hb dX8_wants_7 rfl (lv_at hl 1 rfl) ?_
  refine lv_imul hx hb dX8_wants_8 ?_
  refine lv_iadd hx hb dX8_wants_9 ?_
  refine lv_iconst (v := 3) hx hb dX8_wants_10 (by decide) ?_
  refine lv_iadd hx hb dX8_wants_11 ?_
  obtain ⟨hi1, hf⟩ := gi_e hf
  refine va_iald hx hb hK hP 1 0 rfl rfl hi1 dX8_wants_12 ?_
  refine lv_topi (fun x2_13 ex2_13 => ?_)
  replace hf := lett_s ex2_13 hf
  refine lv_istore_n (lv' := [(2, .int (x2_13)), (0, .ref (a 0)), (1, .int (x1))]) hx hb dX8_wants_13 rfl hl (by decide) rfl (fun ls hl => ?_)
  refine lv_iload_n hx hb dX8_wants_14 rfl (lv_at hl 0 rfl) ?_
  refine lv_iconst (v := 3) hx hb dX8_wants_15 (by decide) ?_
  refine lv_icmp_ne (tgt := 30) hx hb dX8_wants_16 (by decide) (fun c2 => ?_) (fun c2 => ?_)
  · replace hf := it_f c2 hf
    refine lv_iload_n hx hb dX8_wants_30 rfl (lv_at hl 0 rfl) ?_
    refine lv_if_eq (tgt := 39) hx hb dX8_wants_31 (by decide) (fun c3 => ?_) (fun c3 => ?_)
    · replace hf := it_t c3 hf
      exact b_X8_wants_39 C G hR hP x1 M _ (lv_sub hl [1, 2] rfl) hf
    · replace hf := it_f c3 hf
      refine lv_iload_n hx hb dX8_wants_34 rfl (lv_at hl 0 rfl) ?_
      refine lv_iconst (v := 2) hx hb dX8_wants_35 (by decide) ?_
      refine lv_icmp_ne (tgt := 47) hx hb dX8_wants_36 (by decide) (fun c4 => ?_) (fun c4 => ?_)
      · replace hf := it_f c4 hf
        refine lv_iconst (v := 0) hx hb dX8_wants_47 (by decide) ?_
        exact hR _ _ _ dX8_wants_48 hf
      · replace hf := it_t c4 hf
        exact b_X8_wants_39 C G hR hP x1 M _ (lv_sub hl [1, 2] rfl) hf
  · replace hf := it_t c2 hf
    refine lv_aload_n hx hb dX8_wants_19 rfl (lv_at hl 1 rfl) ?_
    refine va_get (D := (dC, dI)) (ci := 8) (v := .ref (a 1)) (C := RX8) (T := TX8) (N := 20) hx hb hts in_X8_wants_X8 hown hK hP 0 rfl rfl 0 (by decide) (hts (.fieldLink RX8 7 "BackLoansModel" "now" "[I") (by decide +kernel)) (fun _ h9 => h9) rfl dX8_wants_20 ?_
    refine lv_iload_n hx hb dX8_wants_23 rfl (lv_at hl 2 rfl) ?_
    obtain ⟨r24, hr24, hf⟩ := bn_e hf
    have hPc := hP.sub (ws' := (wA cs (a 1) 362 (M.2.2 0))) [1] rfl
    refine vp_callSi (W.runS (As := [.ref (a 1), .int (x1)]) (rest := []) C (c_X8_whole l dC dI cs (a 1) (M.2.2 0) x1 r24 hr24) (va_cwS 2 hts gX8_wants_X8_whole rfl rfl rfl (by decide +kernel) ⟨Nat.le_of_ble_eq_true rfl, Nat.le_of_ble_eq_true rfl⟩) ⟨(fun a U g mk q => ⟨q.1, q.2.1, GE.calling q.2.2⟩), (fun U hU hW => ⟨rfl, by rw [hU]; exact hPc, GE.warm hW G⟩)⟩ rfl rfl hl.1 rfl (lv_room (Nat.le_of_ble_eq_true rfl)) dX8_wants_24 ⟨Nat.le_of_ble_eq_true rfl, Nat.le_of_ble_eq_true rfl⟩) (fun qr24 hqr24 => ?_)
    obtain rfl := hqr24.symm
    refine lv_goto (tgt := 48) hx hb dX8_wants_27 (by decide) ?_
    exact hR _ _ _ dX8_wants_48 hf

theorem in_X8_ordered_X8 : ∀ w ∈ wsX80, w ∈ wsX8_ordered := by decide +kernel
def f_X8_ordered_100 (x1 : Int32) (x2 : Int32) (x3 : Int32) (x4 : Int32) (x6 : Int32) (s0 : Int32) (M : Ms) (K31 : Int32 → Int32 → Option Int32) : Option Int32 :=
  lett (x6 + 1) fun x6_102 =>
  K31 s0 x6_102
set_option maxHeartbeats 4000000 in
set_option maxRecDepth 100000 in
theorem b_X8_ordered_100 {p : Program} {l : Launch} {e : Env} {s : State} {m : MethodId} {args : Array Value} {below : List Frame} {meth : Method} {c : Code} {Q : State → Prop} {dC : Nat → ClassId} {dI : Nat → Nat → Nat} {cs : Nat → ClassId} {a : Nat → Nat} {res : Int32} (C : CallFix p m c cX8_ordered 8 s args wsX8_ordered RX8) (G : GE dC dI cs s) (hR : RPi p l e ({ frames := 2, cells := 0, slots := 0, locals := 44 }) s m args below meth c cX8_ordered Q res) {M : Ms} (hP : va_P (dC, dI) vwCl (wM cs a M) s.heap) (x1 : Int32) (x2 : Int32) (x3 : Int32) (x4 : Int32) (x6 : Int32) (s0 : Int32) (_ : Ms) {K31 : Int32 → Int32 → Option Int32} (hK31 : ∀ (x5 : Int32) (x6 : Int32) (ls : Array Slot), lv_has ls 8 [(0, .ref (a 0)), (1, .int (x1)), (2, .int (x2)), (3, .int (x3)), (4, .int (x4)), (5, .int (x5)), (6, .int (x6))] → K31 x5 x6 = some res → W p l e ({ frames := 2, cells := 0, slots := 0, locals := 44 }) s m args below meth c s.heap [] 0 0 Q (F0 m 31 ls [])) (ls : Array Slot) (hl : lv_has ls 8 [(0, .ref (a 0)), (1, .int (x1)), (2, .int (x2)), (3, .int (x3)), (4, .int (x4)), (6, .int (x6))]) (hf : f_X8_ordered_100 x1 x2 x3 x4 x6 s0 M K31 = some res) : W p l e ({ frames := 2, cells := 0, slots := 0, locals := 44 }) s m args below meth c s.heap [] 0 0 Q (F0 m 100 ls [.int (s0)]) := by
  obtain ⟨hx, hb, hml, hown, hts⟩ := id C
  obtain ⟨hK, hN⟩ := id G
  unfold f_X8_ordered_100 at hf
  refine lv_istore (lv' := [(5, .int (s0)), (0, .ref (a 0)), (1, .int (x1)), (2, .int (x2)), (3, .int (x3)), (4, .int (x4)), (6, .int (x6))]) hx hb dX8_ordered_100 hl (by decide) rfl (fun ls hl => ?_)
  obtain ⟨x6_102, ex6_102⟩ : ∃ y : Int32, y = (x6 + 1) := ⟨_, rfl⟩
  replace hf := lett_s ex6_102 hf
  refine lv_iinc (v := x6_102) (lv' := [(6, .int (x6_102)), (5, .int (s0)), (0, .ref (a 0)), (1, .int (x1)), (2, .int (x2)), (3, .int (x3)), (4, .int (x4))]) hx hb dX8_ordered_102 hl (k := 6) rfl (by rw [ex6_102]; rfl) (by decide) rfl (fun ls hl => ?_)
  refine lv_goto (tgt := 31) hx hb dX8_ordered_105 (by decide) ?_
  exact hK31 s0 x6_102 _ (lv_sub hl [2, 3, 4, 5, 6, 1, 0] rfl) hf
def f_X8_ordered_93 (x1 : Int32) (x2 : Int32) (x3 : Int32) (x4 : Int32) (x6 : Int32) (M : Ms) (K31 : Int32 → Int32 → Option Int32) : Option Int32 :=
  f_X8_ordered_100 x1 x2 x3 x4 x6 x6 M K31
set_option maxHeartbeats 4000000 in
set_option maxRecDepth 100000 in
theorem b_X8_ordered_93 {p : Program} {l : Launch} {e : Env} {s : State} {m : MethodId} {args : Array Value} {below : List Frame} {meth : Method} {c : Code} {Q : State → Prop} {dC : Nat → ClassId} {dI : Nat → Nat → Nat} {cs : Nat → ClassId} {a : Nat → Nat} {res : Int32} (C : CallFix p m c cX8_ordered 8 s args wsX8_ordered RX8) (G : GE dC dI cs s) (hR : RPi p l e ({ frames := 2, cells := 0, slots := 0, locals := 44 }) s m args below meth c cX8_ordered Q res) {M : Ms} (hP : va_P (dC, dI) vwCl (wM cs a M) s.heap) (x1 : Int32) (x2 : Int32) (x3 : Int32) (x4 : Int32) (x6 : Int32) (_ : Ms) {K31 : Int32 → Int32 → Option Int32} (hK31 : ∀ (x5 : Int32) (x6 : Int32) (ls : Array Slot), lv_has ls 8 [(0, .ref (a 0)), (1, .int (x1)), (2, .int (x2)), (3, .int (x3)), (4, .int (x4)), (5, .int (x5)), (6, .int (x6))] → K31 x5 x6 = some res → W p l e ({ frames := 2, cells := 0, slots := 0, locals := 44 }) s m args below meth c s.heap [] 0 0 Q (F0 m 31 ls [])) (ls : Array Slot) (hl : lv_has ls 8 [(0, .ref (a 0)), (1, .int (x1)), (2, .int (x2)), (3, .int (x3)), (4, .int (x4)), (6, .int (x6))]) (hf : f_X8_ordered_93 x1 x2 x3 x4 x6 M K31 = some res) : W p l e ({ frames := 2, cells := 0, slots := 0, locals := 44 }) s m args below meth c s.heap [] 0 0 Q (F0 m 93 ls []) := by
  obtain ⟨hx, hb, hml, hown, hts⟩ := id C
  obtain ⟨hK, hN⟩ := id G
  unfold f_X8_ordered_93 at hf
  refine lv_iload hx hb dX8_ordered_93 (lv_at hl 5 rfl) ?_
  refine lv_goto (tgt := 100) hx hb dX8_ordered_95 (by decide) ?_
  exact b_X8_ordered_100 C G hR hP x1 x2 x3 x4 x6 x6 M hK31 _ (lv_sub hl [0, 1, 2, 3, 4, 5] rfl) hf
def f_X8_ordered_98 (x1 : Int32) (x2 : Int32) (x3 : Int32) (x4 : Int32) (x5 : Int32) (x6 : Int32) (M : Ms) (K31 : Int32 → Int32 → Option Int32) : Option Int32 :=
  f_X8_ordered_100 x1 x2 x3 x4 x6 x5 M K31
set_option maxHeartbeats 4000000 in
set_option maxRecDepth 100000 in
theorem b_X8_ordered_98 {p : Program} {l : Launch} {e : Env} {s : State} {m : MethodId} {args : Array Value} {below : List Frame} {meth : Method} {c : Code} {Q : State → Prop} {dC : Nat → ClassId} {dI : Nat → Nat → Nat} {cs : Nat → ClassId} {a : Nat → Nat} {res : Int32} (C : CallFix p m c cX8_ordered 8 s args wsX8_ordered RX8) (G : GE dC dI cs s) (hR : RPi p l e ({ frames := 2, cells := 0, slots := 0, locals := 44 }) s m args below meth c cX8_ordered Q res) {M : Ms} (hP : va_P (dC, dI) vwCl (wM cs a M) s.heap) (x1 : Int32) (x2 : Int32) (x3 : Int32) (x4 : Int32) (x5 : Int32) (x6 : Int32) (_ : Ms) {K31 : Int32 → Int32 → Option Int32} (hK31 : ∀ (x5 : Int32) (x6 : Int32) (ls : Array Slot), lv_has ls 8 [(0, .ref (a 0)), (1, .int (x1)), (2, .int (x2)), (3, .int (x3)), (4, .int (x4)), (5, .int (x5)), (6, .int (x6))] → K31 x5 x6 = some res → W p l e ({ frames := 2, cells := 0, slots := 0, locals := 44 }) s m args below meth c s.heap [] 0 0 Q (F0 m 31 ls [])) (ls : Array Slot) (hl : lv_has ls 8 [(0, .ref (a 0)), (1, .int (x1)), (2, .int (x2)), (3, .int (x3)), (4, .int (x4)), (5, .int (x5)), (6, .int (x6))]) (hf : f_X8_ordered_98 x1 x2 x3 x4 x5 x6 M K31 = some res) : W p l e ({ frames := 2, cells := 0, slots := 0, locals := 44 }) s m args below meth c s.heap [] 0 0 Q (F0 m 98 ls []) := by
  obtain ⟨hx, hb, hml, hown, hts⟩ := id C
  obtain ⟨hK, hN⟩ := id G
  unfold f_X8_ordered_98 at hf
  refine lv_iload hx hb dX8_ordered_98 (lv_at hl 5 rfl) ?_
  exact b_X8_ordered_100 C G hR hP x1 x2 x3 x4 x6 x5 M hK31 _ (lv_sub hl [0, 1, 2, 3, 4, 6] rfl) hf
def f_X8_ordered_65 (x1 : Int32) (x2 : Int32) (x3 : Int32) (x4 : Int32) (x5 : Int32) (x6 : Int32) (s0 : Int32) (M : Ms) (K31 : Int32 → Int32 → Option Int32) : Option Int32 :=
  if s0 = 0 then (
    f_X8_ordered_98 x1 x2 x3 x4 x5 x6 M K31
  ) else (
    if x5 = (-1 : Int32) then (
      f_X8_ordered_93 x1 x2 x3 x4 x6 M K31
    ) else (
      bn (f_X8_wants x6 M) fun r81 =>
      bn (f_X8_wants x5 M) fun r87 =>
      if r87 ≤ r81 then (
        f_X8_ordered_98 x1 x2 x3 x4 x5 x6 M K31
      ) else (
        f_X8_ordered_93 x1 x2 x3 x4 x6 M K31
      )
    )
  )
set_option maxHeartbeats 4000000 in
set_option maxRecDepth 100000 in
theorem b_X8_ordered_65 {p : Program} {l : Launch} {e : Env} {s : State} {m : MethodId} {args : Array Value} {below : List Frame} {meth : Method} {c : Code} {Q : State → Prop} {dC : Nat → ClassId} {dI : Nat → Nat → Nat} {cs : Nat → ClassId} {a : Nat → Nat} {res : Int32} (C : CallFix p m c cX8_ordered 8 s args wsX8_ordered RX8) (G : GE dC dI cs s) (hR : RPi p l e ({ frames := 2, cells := 0, slots := 0, locals := 44 }) s m args below meth c cX8_ordered Q res) {M : Ms} (hP : va_P (dC, dI) vwCl (wM cs a M) s.heap) (x1 : Int32) (x2 : Int32) (x3 : Int32) (x4 : Int32) (x5 : Int32) (x6 : Int32) (s0 : Int32) (_ : Ms) {K31 : Int32 → Int32 → Option Int32} (hK31 : ∀ (x5 : Int32) (x6 : Int32) (ls : Array Slot), lv_has ls 8 [(0, .ref (a 0)), (1, .int (x1)), (2, .int (x2)), (3, .int (x3)), (4, .int (x4)), (5, .int (x5)), (6, .int (x6))] → K31 x5 x6 = some res → W p l e ({ frames := 2, cells := 0, slots := 0, locals := 44 }) s m args below meth c s.heap [] 0 0 Q (F0 m 31 ls [])) (ls : Array Slot) (hl : lv_has ls 8 [(0, .ref (a 0)), (1, .int (x1)), (2, .int (x2)), (3, .int (x3)), (4, .int (x4)), (5, .int (x5)), (6, .int (x6))]) (hf : f_X8_ordered_65 x1 x2 x3 x4 x5 x6 s0 M K31 = some res) : W p l e ({ frames := 2, cells := 0, slots := 0, locals := 44 }) s m args below meth c s.heap [] 0 0 Q (F0 m 65 ls [.int (s0)]) := by
  obtain ⟨hx, hb, hml, hown, hts⟩ := id C
  obtain ⟨hK, hN⟩ := id G
  unfold f_X8_ordered_65 at hf
  refine lv_istore (lv' := [(7, .int (s0)), (0, .ref (a 0)), (1, .int (x1)), (2, .int (x2)), (3, .int (x3)), (4, .int (x4)), (5, .int (x5)), (6, .int (x6))]) hx hb dX8_ordered_65 hl (by decide) rfl (fun ls hl => ?_)
  refine lv_iload hx hb dX8_ordered_67 (lv_at hl 0 rfl) ?_
  refine lv_if_eq (tgt := 98) hx hb dX8_ordered_69 (by decide) (fun c1 => ?_) (fun c1 => ?_)
  · replace hf := it_t c1 hf
    exact b_X8_ordered_98 C G hR hP x1 x2 x3 x4 x5 x6 M hK31 _ (lv_sub hl [1, 2, 3, 4, 5, 6, 7] rfl) hf
  · replace hf := it_f c1 hf
    refine lv_iload hx hb dX8_ordered_72 (lv_at hl 6 rfl) ?_
    refine lv_iconst (v := -1) hx hb dX8_ordered_74 (by decide) ?_
    refine lv_icmp_eq (tgt := 93) hx hb dX8_ordered_75 (by decide) (fun c2 => ?_) (fun c2 => ?_)
    · replace hf := it_t c2 hf
      exact b_X8_ordered_93 C G hR hP x1 x2 x3 x4 x6 M hK31 _ (lv_sub hl [1, 2, 3, 4, 5, 7] rfl) hf
    · replace hf := it_f c2 hf
      refine lv_aload_n hx hb dX8_ordered_78 rfl (lv_at hl 1 rfl) ?_
      refine lv_iload hx hb dX8_ordered_79 (lv_at hl 7 rfl) ?_
      obtain ⟨r81, hr81, hf⟩ := bn_e hf
      have hPc := hP.sub (ws' := (wM cs a M)) [0, 1, 2, 3, 4, 5, 6, 7, 8, 9, 10, 11] rfl
      refine vp_callSi (W.runV (As := [.int (x6)]) (rest := []) C (c_X8_wants l dC dI cs a M x6 r81 hr81) (cwV 1 hts gX8_ordered_X8_wants rfl rfl rfl (by decide +kernel) ⟨Nat.le_of_ble_eq_true rfl, Nat.le_of_ble_eq_true rfl⟩) ⟨(fun a U g mk q => ⟨q.1, q.2.1, GE.calling q.2.2⟩), va_recv hK hPc (ci := 8) (q0 := 0) rfl rfl, (fun U hU hW => ⟨rfl, by rw [hU]; exact hPc, GE.warm hW G⟩)⟩ rfl rfl hl.1 rfl (lv_room (Nat.le_of_ble_eq_true rfl)) dX8_ordered_81 ⟨Nat.le_of_ble_eq_true rfl, Nat.le_of_ble_eq_true rfl⟩) (fun qr81 hqr81 => ?_)
      obtain rfl := hqr81.symm
      refine lv_aload_n hx hb dX8_ordered_84 rfl (lv_at hl 1 rfl) ?_
      refine lv_iload hx hb dX8_ordered_85 (lv_at hl 6 rfl) ?_
      obtain ⟨r87, hr87, hf⟩ := bn_e hf
      have hPc := hP.sub (ws' := (wM cs a M)) [0, 1, 2, 3, 4, 5, 6, 7, 8, 9, 10, 11] rfl
      refine vp_callSi (W.runV (As := [.int (x5)]) (rest := [.int (r81)]) C (c_X8_wants l dC dI cs a M x5 r87 hr87) (cwV 1 hts gX8_ordered_X8_wants rfl rfl rfl (by decide +kernel) ⟨Nat.le_of_ble_eq_true rfl, Nat.le_of_ble_eq_true rfl⟩) ⟨(fun a U g mk q => ⟨q.1, q.2.1, GE.calling q.2.2⟩), va_recv hK hPc (ci := 8) (q0 := 0) rfl rfl, (fun U hU hW => ⟨rfl, by rw [hU]; exact hPc, GE.warm hW G⟩)⟩ rfl rfl hl.1 rfl (lv_room (Nat.le_of_ble_eq_true rfl)) dX8_ordered_87 ⟨Nat.le_of_ble_eq_true rfl, Nat.le_of_ble_eq_true rfl⟩) (fun qr87 hqr87 => ?_)
      obtain rfl := hqr87.symm
      refine lv_icmp_ge (tgt := 98) hx hb dX8_ordered_90 (by decide) (fun c3 => ?_) (fun c3 => ?_)
      · replace hf := it_t c3 hf
        exact b_X8_ordered_98 C G hR hP x1 x2 x3 x4 x5 x6 M hK31 _ (lv_sub hl [1, 2, 3, 4, 5, 6, 7] rfl) hf
      · replace hf := it_f c3 hf
        exact b_X8_ordered_93 C G hR hP x1 x2 x3 x4 x6 M hK31 _ (lv_sub hl [1, 2, 3, 4, 5, 7] rfl) hf
def f_X8_ordered_64 (x1 : Int32) (x2 : Int32) (x3 : Int32) (x4 : Int32) (x5 : Int32) (x6 : Int32) (M : Ms) (K31 : Int32 → Int32 → Option Int32) : Option Int32 :=
  f_X8_ordered_65 x1 x2 x3 x4 x5 x6 (0 : Int32) M K31
set_option maxHeartbeats 4000000 in
set_option maxRecDepth 100000 in
theorem b_X8_ordered_64 {p : Program} {l : Launch} {e : Env} {s : State} {m : MethodId} {args : Array Value} {below : List Frame} {meth : Method} {c : Code} {Q : State → Prop} {dC : Nat → ClassId} {dI : Nat → Nat → Nat} {cs : Nat → ClassId} {a : Nat → Nat} {res : Int32} (C : CallFix p m c cX8_ordered 8 s args wsX8_ordered RX8) (G : GE dC dI cs s) (hR : RPi p l e ({ frames := 2, cells := 0, slots := 0, locals := 44 }) s m args below meth c cX8_ordered Q res) {M : Ms} (hP : va_P (dC, dI) vwCl (wM cs a M) s.heap) (x1 : Int32) (x2 : Int32) (x3 : Int32) (x4 : Int32) (x5 : Int32) (x6 : Int32) (_ : Ms) {K31 : Int32 → Int32 → Option Int32} (hK31 : ∀ (x5 : Int32) (x6 : Int32) (ls : Array Slot), lv_has ls 8 [(0, .ref (a 0)), (1, .int (x1)), (2, .int (x2)), (3, .int (x3)), (4, .int (x4)), (5, .int (x5)), (6, .int (x6))] → K31 x5 x6 = some res → W p l e ({ frames := 2, cells := 0, slots := 0, locals := 44 }) s m args below meth c s.heap [] 0 0 Q (F0 m 31 ls [])) (ls : Array Slot) (hl : lv_has ls 8 [(0, .ref (a 0)), (1, .int (x1)), (2, .int (x2)), (3, .int (x3)), (4, .int (x4)), (5, .int (x5)), (6, .int (x6))]) (hf : f_X8_ordered_64 x1 x2 x3 x4 x5 x6 M K31 = some res) : W p l e ({ frames := 2, cells := 0, slots := 0, locals := 44 }) s m args below meth c s.heap [] 0 0 Q (F0 m 64 ls []) := by
  obtain ⟨hx, hb, hml, hown, hts⟩ := id C
  obtain ⟨hK, hN⟩ := id G
  unfold f_X8_ordered_64 at hf
  refine lv_iconst (v := 0) hx hb dX8_ordered_64 (by decide) ?_
  exact b_X8_ordered_65 C G hR hP x1 x2 x3 x4 x5 x6 (0 : Int32) M hK31 _ (lv_sub hl [0, 1, 2, 3, 4, 5, 6] rfl) hf
def f_X8_ordered_31 (x1 : Int32) (x2 : Int32) (x3 : Int32) (x4 : Int32) (x5 : Int32) (x6 : Int32) (M : Ms) (K31 : Int32 → Int32 → Option Int32) (K108 : Int32 → Option Int32) : Option Int32 :=
  gi ((4 : Int32)) 362 <|
  if ((M.2.2 0) ((4 : Int32)).toNatClampNeg) ≤ x6 then (
    K108 x5
  ) else (
    if ((x2 >>> (x6 &&& 31)) &&& (1 : Int32)) = 0 then (
      bn (f_X8_wants x6 M) fun r54 =>
      if r54 ≤ 0 then (
        f_X8_ordered_64 x1 x2 x3 x4 x5 x6 M K31
      ) else (
        f_X8_ordered_65 x1 x2 x3 x4 x5 x6 (1 : Int32) M K31
      )
    ) else (
      f_X8_ordered_64 x1 x2 x3 x4 x5 x6 M K31
    )
  )
set_option maxHeartbeats 4000000 in
set_option maxRecDepth 100000 in
theorem b_X8_ordered_31 {p : Program} {l : Launch} {e : Env} {s : State} {m : MethodId} {args : Array Value} {below : List Frame} {meth : Method} {c : Code} {Q : State → Prop} {dC : Nat → ClassId} {dI : Nat → Nat → Nat} {cs : Nat → ClassId} {a : Nat → Nat} {res : Int32} (C : CallFix p m c cX8_ordered 8 s args wsX8_ordered RX8) (G : GE dC dI cs s) (hR : RPi p l e ({ frames := 2, cells := 0, slots := 0, locals := 44 }) s m args below meth c cX8_ordered Q res) {M : Ms} (hP : va_P (dC, dI) vwCl (wM cs a M) s.heap) (x1 : Int32) (x2 : Int32) (x3 : Int32) (x4 : Int32) (x5 : Int32) (x6 : Int32) (_ : Ms) {K31 : Int32 → Int32 → Option Int32} {K108 : Int32 → Option Int32} (hK31 : ∀ (x5 : Int32) (x6 : Int32) (ls : Array Slot), lv_has ls 8 [(0, .ref (a 0)), (1, .int (x1)), (2, .int (x2)), (3, .int (x3)), (4, .int (x4)), (5, .int (x5)), (6, .int (x6))] → K31 x5 x6 = some res → W p l e ({ frames := 2, cells := 0, slots := 0, locals := 44 }) s m args below meth c s.heap [] 0 0 Q (F0 m 31 ls [])) (hK108 : ∀ (x5 : Int32) (ls : Array Slot), lv_has ls 8 [(0, .ref (a 0)), (1, .int (x1)), (2, .int (x2)), (3, .int (x3)), (4, .int (x4)), (5, .int (x5))] → K108 x5 = some res → W p l e ({ frames := 2, cells := 0, slots := 0, locals := 44 }) s m args below meth c s.heap [] 0 0 Q (F0 m 108 ls [])) (ls : Array Slot) (hl : lv_has ls 8 [(0, .ref (a 0)), (1, .int (x1)), (2, .int (x2)), (3, .int (x3)), (4, .int (x4)), (5, .int (x5)), (6, .int (x6))]) (hf : f_X8_ordered_31 x1 x2 x3 x4 x5 x6 M K31 K108 = some res) : W p l e ({ frames := 2, cells := 0, slots := 0, locals := 44 }) s m args below meth c s.heap [] 0 0 Q (F0 m 31 ls []) := by
  obtain ⟨hx, hb, hml, hown, hts⟩ := id C
  obtain ⟨hK, hN⟩ := id G
  unfold f_X8_ordered_31 at hf
  refine lv_iload hx hb dX8_ordered_31 (lv_at hl 6 rfl) ?_
  refine lv_aload_n hx hb dX8_ordered_33 rfl (lv_at hl 0 rfl) ?_
  refine va_get (D := (dC, dI)) (ci := 8) (v := .ref (a 1)) (C := RX8) (T := TX8) (N := 20) hx hb hts in_X8_ordered_X8 hown hK hP 0 rfl rfl 0 (by decide) (hts (.fieldLink RX8 7 "BackLoansModel" "now" "[I") (by decide +kernel)) (fun _ h9 => h9) rfl dX8_ordered_34 ?_
  refine lv_iconst (v := 4) hx hb dX8_ordered_37 (by decide) ?_
  obtain ⟨hi1, hf⟩ := gi_e hf
  refine va_iald hx hb hK hP 1 0 rfl rfl hi1 dX8_ordered_38 ?_
  refine lv_icmp_ge (tgt := 108) hx hb dX8_ordered_39 (by decide) (fun c2 => ?_) (fun c2 => ?_)
  · replace hf := it_t c2 hf
    exact hK108 x5 _ (lv_sub hl [0, 1, 2, 3, 4, 5] rfl) hf
  · replace hf := it_f c2 hf
    refine lv_iload_n hx hb dX8_ordered_42 rfl (lv_at hl 2 rfl) ?_
    refine lv_iload hx hb dX8_ordered_43 (lv_at hl 6 rfl) ?_
    refine lv_ishr hx hb dX8_ordered_45 ?_
    refine lv_iconst (v := 1) hx hb dX8_ordered_46 (by decide) ?_
    refine lv_iand hx hb dX8_ordered_47 ?_
    refine lv_if_ne (tgt := 64) hx hb dX8_ordered_48 (by decide) (fun c3 => ?_) (fun c3 => ?_)
    · replace hf := it_f c3 hf
      exact b_X8_ordered_64 C G hR hP x1 x2 x3 x4 x5 x6 M hK31 _ (lv_sub hl [0, 1, 2, 3, 4, 5, 6] rfl) hf
    · replace hf := it_t c3 hf
      refine lv_aload_n hx hb dX8_ordered_51 rfl (lv_at hl 0 rfl) ?_
      refine lv_iload hx hb dX8_ordered_52 (lv_at hl 6 rfl) ?_
      obtain ⟨r54, hr54, hf⟩ := bn_e hf
      have hPc := hP.sub (ws' := (wM cs a M)) [0, 1, 2, 3, 4, 5, 6, 7, 8, 9, 10, 11] rfl
      refine vp_callSi (W.runV (As := [.int (x6)]) (rest := []) C (c_X8_wants l dC dI cs a M x6 r54 hr54) (cwV 1 hts gX8_ordered_X8_wants rfl rfl rfl (by decide +kernel) ⟨Nat.le_of_ble_eq_true rfl, Nat.le_of_ble_eq_true rfl⟩) ⟨(fun a U g mk q => ⟨q.1, q.2.1, GE.calling q.2.2⟩), va_recv hK hPc (ci := 8) (q0 := 0) rfl rfl, (fun U hU hW => ⟨rfl, by rw [hU]; exact hPc, GE.warm hW G⟩)⟩ rfl rfl hl.1 rfl (lv_room (Nat.le_of_ble_eq_true rfl)) dX8_ordered_54 ⟨Nat.le_of_ble_eq_true rfl, Nat.le_of_ble_eq_true rfl⟩) (fun qr54 hqr54 => ?_)
      obtain rfl := hqr54.symm
      refine lv_if_le (tgt := 64) hx hb dX8_ordered_57 (by decide) (fun c4 => ?_) (fun c4 => ?_)
      · replace hf := it_t c4 hf
        exact b_X8_ordered_64 C G hR hP x1 x2 x3 x4 x5 x6 M hK31 _ (lv_sub hl [0, 1, 2, 3, 4, 5, 6] rfl) hf
      · replace hf := it_f c4 hf
        refine lv_iconst (v := 1) hx hb dX8_ordered_60 (by decide) ?_
        refine lv_goto (tgt := 65) hx hb dX8_ordered_61 (by decide) ?_
        exact b_X8_ordered_65 C G hR hP x1 x2 x3 x4 x5 x6 (1 : Int32) M hK31 _ (lv_sub hl [0, 1, 2, 3, 4, 5, 6] rfl) hf
def l_X8_ordered_31 (x1 : Int32) (x2 : Int32) (x3 : Int32) (x4 : Int32) (M : Ms) (K108 : Int32 → Option Int32) (n : Nat) (x5 : Int32) (x6 : Int32) : Option Int32 := itr (fun (k : Int32 × Int32 → Option Int32) (z : Int32 × Int32) => f_X8_ordered_31 x1 x2 x3 x4 z.1 z.2 M (fun x5 x6 => k (x5, x6)) K108) n (x5, x6)
set_option maxHeartbeats 4000000 in
set_option maxRecDepth 100000 in
theorem w_X8_ordered_31 {p : Program} {l : Launch} {e : Env} {s : State} {m : MethodId} {args : Array Value} {below : List Frame} {meth : Method} {c : Code} {Q : State → Prop} {dC : Nat → ClassId} {dI : Nat → Nat → Nat} {cs : Nat → ClassId} {a : Nat → Nat} {res : Int32} (C : CallFix p m c cX8_ordered 8 s args wsX8_ordered RX8) (G : GE dC dI cs s) (hR : RPi p l e ({ frames := 2, cells := 0, slots := 0, locals := 44 }) s m args below meth c cX8_ordered Q res) {M : Ms} (hP : va_P (dC, dI) vwCl (wM cs a M) s.heap) (x1 : Int32) (x2 : Int32) (x3 : Int32) (x4 : Int32) (_ : Ms) {K108 : Int32 → Option Int32} (hK108 : ∀ (x5 : Int32) (ls : Array Slot), lv_has ls 8 [(0, .ref (a 0)), (1, .int (x1)), (2, .int (x2)), (3, .int (x3)), (4, .int (x4)), (5, .int (x5))] → K108 x5 = some res → W p l e ({ frames := 2, cells := 0, slots := 0, locals := 44 }) s m args below meth c s.heap [] 0 0 Q (F0 m 108 ls [])) : ∀ (n : Nat) (x5 : Int32) (x6 : Int32) (ls : Array Slot), lv_has ls 8 [(0, .ref (a 0)), (1, .int (x1)), (2, .int (x2)), (3, .int (x3)), (4, .int (x4)), (5, .int (x5)), (6, .int (x6))] → l_X8_ordered_31 x1 x2 x3 x4 M K108 n x5 x6 = some res → W p l e ({ frames := 2, cells := 0, slots := 0, locals := 44 }) s m args below meth c s.heap [] 0 0 Q (F0 m 31 ls []) := by
  intro n
  induction n with
  | zero => intro x5 x6 ls hl hf; exact absurd hf (by simp [l_X8_ordered_31, itr])
  | succ n ih =>
    intro x5 x6 ls hl hf
    replace hf : f_X8_ordered_31 x1 x2 x3 x4 x5 x6 M (fun x5 x6 => l_X8_ordered_31 x1 x2 x3 x4 M K108 n x5 x6) K108 = some res := by rw [← hf]; unfold l_X8_ordered_31; rw [itr_s]
    exact b_X8_ordered_31 C G hR hP x1 x2 x3 x4 x5 x6 M (K31 := fun x5 x6 => l_X8_ordered_31 x1 x2 x3 x4 M K108 n x5 x6) (fun x5 x6 ls hl hf => ih x5 x6 ls hl hf) hK108 ls hl hf
def f_X8_ordered_108 (x1 : Int32) (x2 : Int32) (x3 : Int32) (x4 : Int32) (x5 : Int32) (M : Ms) (K14 : Int32 → Int32 → Int32 → Int32 → Option Int32) : Option Int32 :=
  if x5 = (-1 : Int32) then (
    some x3
  ) else (
    bn (f_X8_wants x5 M) fun r117 =>
    if r117 ≤ x1 then (
      lett (x2 ||| ((1 : Int32) <<< (x5 &&& 31))) fun x2_132 =>
      bn (f_X8_wants x5 M) fun r137 =>
      lett (x1 - r137) fun x1_141 =>
      lett (x3 + 1) fun x3_142 =>
      lett (x4 + 1) fun x4_145 =>
      K14 x1_141 x2_132 x3_142 x4_145
    ) else (
      some x3
    )
  )
set_option maxHeartbeats 4000000 in
set_option maxRecDepth 100000 in
theorem b_X8_ordered_108 {p : Program} {l : Launch} {e : Env} {s : State} {m : MethodId} {args : Array Value} {below : List Frame} {meth : Method} {c : Code} {Q : State → Prop} {dC : Nat → ClassId} {dI : Nat → Nat → Nat} {cs : Nat → ClassId} {a : Nat → Nat} {res : Int32} (C : CallFix p m c cX8_ordered 8 s args wsX8_ordered RX8) (G : GE dC dI cs s) (hR : RPi p l e ({ frames := 2, cells := 0, slots := 0, locals := 44 }) s m args below meth c cX8_ordered Q res) {M : Ms} (hP : va_P (dC, dI) vwCl (wM cs a M) s.heap) (x1 : Int32) (x2 : Int32) (x3 : Int32) (x4 : Int32) (x5 : Int32) (_ : Ms) {K14 : Int32 → Int32 → Int32 → Int32 → Option Int32} (hK14 : ∀ (x1 : Int32) (x2 : Int32) (x3 : Int32) (x4 : Int32) (ls : Array Slot), lv_has ls 8 [(0, .ref (a 0)), (1, .int (x1)), (2, .int (x2)), (3, .int (x3)), (4, .int (x4))] → K14 x1 x2 x3 x4 = some res → W p l e ({ frames := 2, cells := 0, slots := 0, locals := 44 }) s m args below meth c s.heap [] 0 0 Q (F0 m 14 ls [])) (ls : Array Slot) (hl : lv_has ls 8 [(0, .ref (a 0)), (1, .int (x1)), (2, .int (x2)), (3, .int (x3)), (4, .int (x4)), (5, .int (x5))]) (hf : f_X8_ordered_108 x1 x2 x3 x4 x5 M K14 = some res) : W p l e ({ frames := 2, cells := 0, slots := 0, locals := 44 }) s m args below meth c s.heap [] 0 0 Q (F0 m 108 ls []) := by
  obtain ⟨hx, hb, hml, hown, hts⟩ := id C
  obtain ⟨hK, hN⟩ := id G
  unfold f_X8_ordered_108 at hf
  refine lv_iload hx hb dX8_ordered_108 (lv_at hl 5 rfl) ?_
  refine lv_iconst (v := -1) hx hb dX8_ordered_110 (by decide) ?_
  refine lv_icmp_eq (tgt := 124) hx hb dX8_ordered_111 (by decide) (fun c1 => ?_) (fun c1 => ?_)
  · replace hf := it_t c1 hf
    refine lv_iload_n hx hb dX8_ordered_124 rfl (lv_at hl 3 rfl) ?_
    exact hR _ _ _ dX8_ordered_125 hf
  · replace hf := it_f c1 hf
    refine lv_aload_n hx hb dX8_ordered_114 rfl (lv_at hl 0 rfl) ?_
    refine lv_iload hx hb dX8_ordered_115 (lv_at hl 5 rfl) ?_
    obtain ⟨r117, hr117, hf⟩ := bn_e hf
    have hPc := hP.sub (ws' := (wM cs a M)) [0, 1, 2, 3, 4, 5, 6, 7, 8, 9, 10, 11] rfl
    refine vp_callSi (W.runV (As := [.int (x5)]) (rest := []) C (c_X8_wants l dC dI cs a M x5 r117 hr117) (cwV 1 hts gX8_ordered_X8_wants rfl rfl rfl (by decide +kernel) ⟨Nat.le_of_ble_eq_true rfl, Nat.le_of_ble_eq_true rfl⟩) ⟨(fun a U g mk q => ⟨q.1, q.2.1, GE.calling q.2.2⟩), va_recv hK hPc (ci := 8) (q0 := 0) rfl rfl, (fun U hU hW => ⟨rfl, by rw [hU]; exact hPc, GE.warm hW G⟩)⟩ rfl rfl hl.1 rfl (lv_room (Nat.le_of_ble_eq_true rfl)) dX8_ordered_117 ⟨Nat.le_of_ble_eq_true rfl, Nat.le_of_ble_eq_true rfl⟩) (fun qr117 hqr117 => ?_)
    obtain rfl := hqr117.symm
    refine lv_iload_n hx hb dX8_ordered_120 rfl (lv_at hl 1 rfl) ?_
    refine lv_icmp_le (tgt := 126) hx hb dX8_ordered_121 (by decide) (fun c2 => ?_) (fun c2 => ?_)
    · replace hf := it_t c2 hf
      refine lv_iload_n hx hb dX8_ordered_126 rfl (lv_at hl 2 rfl) ?_
      refine lv_iconst (v := 1) hx hb dX8_ordered_127 (by decide) ?_
      refine lv_iload hx hb dX8_ordered_128 (lv_at hl 5 rfl) ?_
      refine lv_ishl hx hb dX8_ordered_130 ?_
      refine lv_ior hx hb dX8_ordered_131 ?_
      refine lv_topi (fun x2_132 ex2_132 => ?_)
      replace hf := lett_s ex2_132 hf
      refine lv_istore_n (lv' := [(2, .int (x2_132)), (0, .ref (a 0)), (1, .int (x1)), (3, .int (x3)), (4, .int (x4)), (5, .int (x5))]) hx hb dX8_ordered_132 rfl hl (by decide) rfl (fun ls hl => ?_)
      refine lv_iload_n hx hb dX8_ordered_133 rfl (lv_at hl 2 rfl) ?_
      refine lv_aload_n hx hb dX8_ordered_134 rfl (lv_at hl 1 rfl) ?_
      refine lv_iload hx hb dX8_ordered_135 (lv_at hl 5 rfl) ?_
      obtain ⟨r137, hr137, hf⟩ := bn_e hf
      have hPc := hP.sub (ws' := (wM cs a M)) [0, 1, 2, 3, 4, 5, 6, 7, 8, 9, 10, 11] rfl
      refine vp_callSi (W.runV (As := [.int (x5)]) (rest := [.int (x1)]) C (c_X8_wants l dC dI cs a M x5 r137 hr137) (cwV 1 hts gX8_ordered_X8_wants rfl rfl rfl (by decide +kernel) ⟨Nat.le_of_ble_eq_true rfl, Nat.le_of_ble_eq_true rfl⟩) ⟨(fun a U g mk q => ⟨q.1, q.2.1, GE.calling q.2.2⟩), va_recv hK hPc (ci := 8) (q0 := 0) rfl rfl, (fun U hU hW => ⟨rfl, by rw [hU]; exact hPc, GE.warm hW G⟩)⟩ rfl rfl hl.1 rfl (lv_room (Nat.le_of_ble_eq_true rfl)) dX8_ordered_137 ⟨Nat.le_of_ble_eq_true rfl, Nat.le_of_ble_eq_true rfl⟩) (fun qr137 hqr137 => ?_)
      obtain rfl := hqr137.symm
      refine lv_isub hx hb dX8_ordered_140 ?_
      refine lv_topi (fun x1_141 ex1_141 => ?_)
      replace hf := lett_s ex1_141 hf
      refine lv_istore_n (lv' := [(1, .int (x1_141)), (2, .int (x2_132)), (0, .ref (a 0)), (3, .int (x3)), (4, .int (x4)), (5, .int (x5))]) hx hb dX8_ordered_141 rfl hl (by decide) rfl (fun ls hl => ?_)
      obtain ⟨x3_142, ex3_142⟩ : ∃ y : Int32, y = (x3 + 1) := ⟨_, rfl⟩
      replace hf := lett_s ex3_142 hf
      refine lv_iinc (v := x3_142) (lv' := [(3, .int (x3_142)), (1, .int (x1_141)), (2, .int (x2_132)), (0, .ref (a 0)), (4, .int (x4)), (5, .int (x5))]) hx hb dX8_ordered_142 hl (k := 3) rfl (by rw [ex3_142]; rfl) (by decide) rfl (fun ls hl => ?_)
      obtain ⟨x4_145, ex4_145⟩ : ∃ y : Int32, y = (x4 + 1) := ⟨_, rfl⟩
      replace hf := lett_s ex4_145 hf
      refine lv_iinc (v := x4_145) (lv' := [(4, .int (x4_145)), (3, .int (x3_142)), (1, .int (x1_141)), (2, .int (x2_132)), (0, .ref (a 0)), (5, .int (x5))]) hx hb dX8_ordered_145 hl (k := 4) rfl (by rw [ex4_145]; rfl) (by decide) rfl (fun ls hl => ?_)
      refine lv_goto (tgt := 14) hx hb dX8_ordered_148 (by decide) ?_
      exact hK14 x1_141 x2_132 x3_142 x4_145 _ (lv_sub hl [4, 2, 3, 1, 0] rfl) hf
    · replace hf := it_f c2 hf
      refine lv_iload_n hx hb dX8_ordered_124 rfl (lv_at hl 3 rfl) ?_
      exact hR _ _ _ dX8_ordered_125 hf
def f_X8_ordered_14 (x1 : Int32) (x2 : Int32) (x3 : Int32) (x4 : Int32) (M : Ms) (K14 : Int32 → Int32 → Int32 → Int32 → Option Int32) : Option Int32 :=
  gi ((4 : Int32)) 362 <|
  if ((M.2.2 0) ((4 : Int32)).toNatClampNeg) ≤ x4 then (
    some x3
  ) else (
    lett (-1 : Int32) fun x5_26 =>
    lett (0 : Int32) fun x6_29 =>
    l_X8_ordered_31 x1 x2 x3 x4 M (fun x5 => f_X8_ordered_108 x1 x2 x3 x4 x5 M K14) FU x5_26 x6_29
  )
set_option maxHeartbeats 4000000 in
set_option maxRecDepth 100000 in
theorem b_X8_ordered_14 {p : Program} {l : Launch} {e : Env} {s : State} {m : MethodId} {args : Array Value} {below : List Frame} {meth : Method} {c : Code} {Q : State → Prop} {dC : Nat → ClassId} {dI : Nat → Nat → Nat} {cs : Nat → ClassId} {a : Nat → Nat} {res : Int32} (C : CallFix p m c cX8_ordered 8 s args wsX8_ordered RX8) (G : GE dC dI cs s) (hR : RPi p l e ({ frames := 2, cells := 0, slots := 0, locals := 44 }) s m args below meth c cX8_ordered Q res) {M : Ms} (hP : va_P (dC, dI) vwCl (wM cs a M) s.heap) (x1 : Int32) (x2 : Int32) (x3 : Int32) (x4 : Int32) (_ : Ms) {K14 : Int32 → Int32 → Int32 → Int32 → Option Int32} (hK14 : ∀ (x1 : Int32) (x2 : Int32) (x3 : Int32) (x4 : Int32) (ls : Array Slot), lv_has ls 8 [(0, .ref (a 0)), (1, .int (x1)), (2, .int (x2)), (3, .int (x3)), (4, .int (x4))] → K14 x1 x2 x3 x4 = some res → W p l e ({ frames := 2, cells := 0, slots := 0, locals := 44 }) s m args below meth c s.heap [] 0 0 Q (F0 m 14 ls [])) (ls : Array Slot) (hl : lv_has ls 8 [(0, .ref (a 0)), (1, .int (x1)), (2, .int (x2)), (3, .int (x3)), (4, .int (x4))]) (hf : f_X8_ordered_14 x1 x2 x3 x4 M K14 = some res) : W p l e ({ frames := 2, cells := 0, slots := 0, locals := 44 }) s m args below meth c s.heap [] 0 0 Q (F0 m 14 ls []) := by
  obtain ⟨hx, hb, hml, hown, hts⟩ := id C
  obtain ⟨hK, hN⟩ := id G
  unfold f_X8_ordered_14 at hf
  refine lv_iload hx hb dX8_ordered_14 (lv_at hl 4 rfl) ?_
  refine lv_aload_n hx hb dX8_ordered_16 rfl (lv_at hl 0 rfl) ?_
  refine va_get (D := (dC, dI)) (ci := 8) (v := .ref (a 1)) (C := RX8) (T := TX8) (N := 20) hx hb hts in_X8_ordered_X8 hown hK hP 0 rfl rfl 0 (by decide) (hts (.fieldLink RX8 7 "BackLoansModel" "now" "[I") (by decide +kernel)) (fun _ h9 => h9) rfl dX8_ordered_17 ?_
  refine lv_iconst (v := 4) hx hb dX8_ordered_20 (by decide) ?_
  obtain ⟨hi1, hf⟩ := gi_e hf
  refine va_iald hx hb hK hP 1 0 rfl rfl hi1 dX8_ordered_21 ?_
  refine lv_icmp_ge (tgt := 151) hx hb dX8_ordered_22 (by decide) (fun c2 => ?_) (fun c2 => ?_)
  · replace hf := it_t c2 hf
    refine lv_iload_n hx hb dX8_ordered_151 rfl (lv_at hl 3 rfl) ?_
    exact hR _ _ _ dX8_ordered_152 hf
  · replace hf := it_f c2 hf
    refine lv_iconst (v := -1) hx hb dX8_ordered_25 (by decide) ?_
    refine lv_topi (fun x5_26 ex5_26 => ?_)
    replace hf := lett_s ex5_26 hf
    refine lv_istore (lv' := [(5, .int (x5_26)), (0, .ref (a 0)), (1, .int (x1)), (2, .int (x2)), (3, .int (x3)), (4, .int (x4))]) hx hb dX8_ordered_26 hl (by decide) rfl (fun ls hl => ?_)
    refine lv_iconst (v := 0) hx hb dX8_ordered_28 (by decide) ?_
    refine lv_topi (fun x6_29 ex6_29 => ?_)
    replace hf := lett_s ex6_29 hf
    refine lv_istore (lv' := [(6, .int (x6_29)), (5, .int (x5_26)), (0, .ref (a 0)), (1, .int (x1)), (2, .int (x2)), (3, .int (x3)), (4, .int (x4))]) hx hb dX8_ordered_29 hl (by decide) rfl (fun ls hl => ?_)
    exact w_X8_ordered_31 C G hR hP x1 x2 x3 x4 M (fun x5 ls hl hf => b_X8_ordered_108 C G hR hP x1 x2 x3 x4 x5 M hK14 _ hl hf) FU x5_26 x6_29 _ (lv_sub hl [2, 3, 4, 5, 6, 1, 0] rfl) hf
def l_X8_ordered_14 (M : Ms)  (n : Nat) (x1 : Int32) (x2 : Int32) (x3 : Int32) (x4 : Int32) : Option Int32 := itr (fun (k : Int32 × Int32 × Int32 × Int32 → Option Int32) (z : Int32 × Int32 × Int32 × Int32) => f_X8_ordered_14 z.1 z.2.1 z.2.2.1 z.2.2.2 M (fun x1 x2 x3 x4 => k (x1, x2, x3, x4))) n (x1, x2, x3, x4)
set_option maxHeartbeats 4000000 in
set_option maxRecDepth 100000 in
theorem w_X8_ordered_14 {p : Program} {l : Launch} {e : Env} {s : State} {m : MethodId} {args : Array Value} {below : List Frame} {meth : Method} {c : Code} {Q : State → Prop} {dC : Nat → ClassId} {dI : Nat → Nat → Nat} {cs : Nat → ClassId} {a : Nat → Nat} {res : Int32} (C : CallFix p m c cX8_ordered 8 s args wsX8_ordered RX8) (G : GE dC dI cs s) (hR : RPi p l e ({ frames := 2, cells := 0, slots := 0, locals := 44 }) s m args below meth c cX8_ordered Q res) {M : Ms} (hP : va_P (dC, dI) vwCl (wM cs a M) s.heap)  (_ : Ms)   : ∀ (n : Nat) (x1 : Int32) (x2 : Int32) (x3 : Int32) (x4 : Int32) (ls : Array Slot), lv_has ls 8 [(0, .ref (a 0)), (1, .int (x1)), (2, .int (x2)), (3, .int (x3)), (4, .int (x4))] → l_X8_ordered_14 M n x1 x2 x3 x4 = some res → W p l e ({ frames := 2, cells := 0, slots := 0, locals := 44 }) s m args below meth c s.heap [] 0 0 Q (F0 m 14 ls []) := by
  intro n
  induction n with
  | zero => intro x1 x2 x3 x4 ls hl hf; exact absurd hf (by simp [l_X8_ordered_14, itr])
  | succ n ih =>
    intro x1 x2 x3 x4 ls hl hf
    replace hf : f_X8_ordered_14 x1 x2 x3 x4 M (fun x1 x2 x3 x4 => l_X8_ordered_14 M n x1 x2 x3 x4) = some res := by rw [← hf]; unfold l_X8_ordered_14; rw [itr_s]
    exact b_X8_ordered_14 C G hR hP x1 x2 x3 x4 M (K14 := fun x1 x2 x3 x4 => l_X8_ordered_14 M n x1 x2 x3 x4) (fun x1 x2 x3 x4 ls hl hf => ih x1 x2 x3 x4 ls hl hf) ls hl hf
def f_X8_ordered  (M : Ms) : Option Int32 :=
  gi ((0 : Int32)) 362 <|
  lett ((M.2.2 0) ((0 : Int32)).toNatClampNeg) fun x1_6 =>
  lett (0 : Int32) fun x2_8 =>
  lett (0 : Int32) fun x3_10 =>
  lett (0 : Int32) fun x4_12 =>
  l_X8_ordered_14 M FU x1_6 x2_8 x3_10 x4_12
set_option maxHeartbeats 4000000 in
set_option maxRecDepth 100000 in
theorem c_X8_ordered (l : Launch) (dC : Nat → ClassId) (dI : Nat → Nat → Nat) (cs : Nat → ClassId) (a : Nat → Nat) (M : Ms)  (res : Int32) (hf : f_X8_ordered M = some res) : Met l yX8_ordered wsX8_ordered ({ frames := 2, cells := 0, slots := 0, locals := 44 }) (va_Pc [.ref (a 0)] (fun U => va_P (dC, dI) vwCl (wM cs a M) U.heap ∧ GE dC dI cs U)) (vp_Si (fun r => r = res)) 0 0 (fun _ => False) := by
  refine Met.ofW (cc := cX8_ordered) (maxL := 8) (ret := (some .int)) (by decide) rfl ?_
  intro p e s m args below meth c s₁ Bd hml hv
  obtain ⟨rfl, hP, G⟩ := hv
  have hts := atoms_spec (ws := wsX8_ordered) Bd.pre
  have hown : s.vm.findClass RX8 = some m.cls := findClass_of_methodNamed Bd.named
  have hlocks := Bd.notSynchronized
  have hx := Bd.exec
  have hb := Bd.bytes
  have hr := Bd.returns
  have C : CallFix p m c cX8_ordered 8 s _ wsX8_ordered RX8 := ⟨hx, hb, hml, hown, hts⟩
  obtain ⟨hK, hN⟩ := id G
  have hR : RPi p l e ({ frames := 2, cells := 0, slots := 0, locals := 44 }) s m ([.ref (a 0)] : List Value).toArray below meth c cX8_ordered (MQ below (vp_Si (fun r => r = res)) ([.ref (a 0)] : List Value).toArray s 0 0 (fun _ => False)) res := fun pc ls r dd h => W.iret hx hb hr (fun t ht hW => ⟨r, rfl, Option.some.inj h, ht⟩) (fun q hq => by cases hq) dd
  have hl := lv_entry ([.ref (a 0)]) (n := 8) (Nat.le_of_ble_eq_true rfl)
  rw [lg_entry_eq]
  generalize (lg_sl ([.ref (a 0)]) ++ List.replicate (8 - (lg_sl ([.ref (a 0)])).length) Slot.unset).toArray = ls at hl ⊢
  have hl : lv_has ls 8 [(0, .ref (a 0))] := hl
  unfold f_X8_ordered at hf
  refine lv_aload_n hx hb dX8_ordered_0 rfl (lv_at hl 0 rfl) ?_
  refine va_get (D := (dC, dI)) (ci := 8) (v := .ref (a 1)) (C := RX8) (T := TX8) (N := 20) hx hb hts in_X8_ordered_X8 hown hK hP 0 rfl rfl 0 (by decide) (hts (.fieldLink RX8 7 "BackLoansModel" "now" "[I") (by decide +kernel)) (fun _ h9 => h9) rfl dX8_ordered_1 ?_
  refine lv_iconst (v := 0) hx hb dX8_ordered_4 (by decide) ?_
  obtain ⟨hi1, hf⟩ := gi_e hf
  refine va_iald hx hb hK hP 1 0 rfl rfl hi1 dX8_ordered_5 ?_
  refine lv_topi (fun x1_6 ex1_6 => ?_)
  replace hf := lett_s ex1_6 hf
  refine lv_istore_n (lv' := [(1, .int (x1_6)), (0, .ref (a 0))]) hx hb dX8_ordered_6 rfl hl (by decide) rfl (fun ls hl => ?_)
  refine lv_iconst (v := 0) hx hb dX8_ordered_7 (by decide) ?_
  refine lv_topi (fun x2_8 ex2_8 => ?_)
  replace hf := lett_s ex2_8 hf
  refine lv_istore_n (lv' := [(2, .int (x2_8)), (1, .int (x1_6)), (0, .ref (a 0))]) hx hb dX8_ordered_8 rfl hl (by decide) rfl (fun ls hl => ?_)
  refine lv_iconst (v := 0) hx hb dX8_ordered_9 (by decide) ?_
  refine lv_topi (fun x3_10 ex3_10 => ?_)
  replace hf := lett_s ex3_10 hf
  refine lv_istore_n (lv' := [(3, .int (x3_10)), (2, .int (x2_8)), (1, .int (x1_6)), (0, .ref (a 0))]) hx hb dX8_ordered_10 rfl hl (by decide) rfl (fun ls hl => ?_)
  refine lv_iconst (v := 0) hx hb dX8_ordered_11 (by decide) ?_
  refine lv_topi (fun x4_12 ex4_12 => ?_)
  replace hf := lett_s ex4_12 hf
  refine lv_istore (lv' := [(4, .int (x4_12)), (3, .int (x3_10)), (2, .int (x2_8)), (1, .int (x1_6)), (0, .ref (a 0))]) hx hb dX8_ordered_12 hl (by decide) rfl (fun ls hl => ?_)
  exact w_X8_ordered_14 C G hR hP M FU x1_6 x2_8 x3_10 x4_12 _ (lv_sub hl [4, 3, 2, 1, 0] rfl) hf

theorem in_X8_runs_X8 : ∀ w ∈ wsX80, w ∈ wsX8_runs := by decide +kernel
def f_X8_runs_65 (x1 : Int32) (M : Ms) (K17 : Int32 → Ms → Option Ms) : Option Ms :=
  lett (x1 + 1) fun x1_65 =>
  K17 x1_65 M
set_option maxHeartbeats 4000000 in
set_option maxRecDepth 100000 in
theorem b_X8_runs_65 {p : Program} {l : Launch} {e : Env} {s : State} {m : MethodId} {args : Array Value} {below : List Frame} {meth : Method} {c : Code} {Q : State → Prop} {dC : Nat → ClassId} {dI : Nat → Nat → Nat} {cs : Nat → ClassId} {A : Nat → Prop} {a : Nat → Nat} {res : Ms} (C : CallFix p m c cX8_runs 3 s args wsX8_runs RX8) (G : GE dC dI cs s) (hA : ∀ q : Nat, s.heap.size ≤ q → A q) (hR : RTv p l e ({ frames := 2, cells := 0, slots := 0, locals := 44 }) s m args below meth c cX8_runs Q (dC, dI) A (fun u : Ms => (wM cs a u)) res) (x1 : Int32) (M : Ms) {K17 : Int32 → Ms → Option Ms} (hK17 : ∀ (x1 : Int32) (M : Ms) (H : Heap) (locs : List Loc) (ls : Array Slot), lv_has ls 3 [(0, .ref (a 0)), (1, .int (x1))] → va_P (dC, dI) vwCl (wM cs a M) H → va_D A (wM cs a M) → va_S A s.heap H locs → K17 x1 M = some res → W p l e ({ frames := 2, cells := 0, slots := 0, locals := 44 }) s m args below meth c H locs 0 0 Q (F0 m 17 ls [])) (H : Heap) (locs : List Loc) (ls : Array Slot) (hl : lv_has ls 3 [(0, .ref (a 0)), (1, .int (x1))]) (hP : va_P (dC, dI) vwCl (wM cs a M) H) (hD : va_D A (wM cs a M)) (hS : va_S A s.heap H locs) (hf : f_X8_runs_65 x1 M K17 = some res) : W p l e ({ frames := 2, cells := 0, slots := 0, locals := 44 }) s m args below meth c H locs 0 0 Q (F0 m 65 ls []) := by
  obtain ⟨hx, hb, hml, hown, hts⟩ := id C
  obtain ⟨hK, hN⟩ := id G
  unfold f_X8_runs_65 at hf
  obtain ⟨x1_65, ex1_65⟩ : ∃ y : Int32, y = (x1 + 1) := ⟨_, rfl⟩
  replace hf := lett_s ex1_65 hf
  refine lv_iinc (v := x1_65) (lv' := [(1, .int (x1_65)), (0, .ref (a 0))]) hx hb dX8_runs_65 hl (k := 1) rfl (by rw [ex1_65]; rfl) (by decide) rfl (fun ls hl => ?_)
  refine lv_goto (tgt := 17) hx hb dX8_runs_68 (by decide) ?_
  exact hK17 x1_65 M _ _ _ (lv_sub hl [1, 0] rfl) hP hD hS hf
def f_X8_runs_17 (x1 : Int32) (M : Ms) (K17 : Int32 → Ms → Option Ms) : Option Ms :=
  gi ((4 : Int32)) 362 <|
  if ((M.2.2 0) ((4 : Int32)).toNatClampNeg) ≤ x1 then (
    some M
  ) else (
    bn (f_X8_wants x1 M) fun r29 =>
    if r29 ≤ 0 then (
      f_X8_runs_65 x1 M K17
    ) else (
      if (M.1 6) < r29 then (
        f_X8_runs_65 x1 M K17
      ) else (
        lett ((upd M.1 6 (((M.1 6) - r29)), M.2)) fun M_52 =>
        lett ((upd M_52.1 5 (((M_52.1 5) + (1 : Int32))), M_52.2)) fun M_62 =>
        f_X8_runs_65 x1 M_62 K17
      )
    )
  )
set_option maxHeartbeats 4000000 in
set_option maxRecDepth 100000 in
theorem b_X8_runs_17 {p : Program} {l : Launch} {e : Env} {s : State} {m : MethodId} {args : Array Value} {below : List Frame} {meth : Method} {c : Code} {Q : State → Prop} {dC : Nat → ClassId} {dI : Nat → Nat → Nat} {cs : Nat → ClassId} {A : Nat → Prop} {a : Nat → Nat} {res : Ms} (C : CallFix p m c cX8_runs 3 s args wsX8_runs RX8) (G : GE dC dI cs s) (hA : ∀ q : Nat, s.heap.size ≤ q → A q) (hR : RTv p l e ({ frames := 2, cells := 0, slots := 0, locals := 44 }) s m args below meth c cX8_runs Q (dC, dI) A (fun u : Ms => (wM cs a u)) res) (x1 : Int32) (M : Ms) {K17 : Int32 → Ms → Option Ms} (hK17 : ∀ (x1 : Int32) (M : Ms) (H : Heap) (locs : List Loc) (ls : Array Slot), lv_has ls 3 [(0, .ref (a 0)), (1, .int (x1))] → va_P (dC, dI) vwCl (wM cs a M) H → va_D A (wM cs a M) → va_S A s.heap H locs → K17 x1 M = some res → W p l e ({ frames := 2, cells := 0, slots := 0, locals := 44 }) s m args below meth c H locs 0 0 Q (F0 m 17 ls [])) (H : Heap) (locs : List Loc) (ls : Array Slot) (hl : lv_has ls 3 [(0, .ref (a 0)), (1, .int (x1))]) (hP : va_P (dC, dI) vwCl (wM cs a M) H) (hD : va_D A (wM cs a M)) (hS : va_S A s.heap H locs) (hf : f_X8_runs_17 x1 M K17 = some res) : W p l e ({ frames := 2, cells := 0, slots := 0, locals := 44 }) s m args below meth c H locs 0 0 Q (F0 m 17 ls []) := by
  obtain ⟨hx, hb, hml, hown, hts⟩ := id C
  obtain ⟨hK, hN⟩ := id G
  unfold f_X8_runs_17 at hf
  refine lv_iload_n hx hb dX8_runs_17 rfl (lv_at hl 1 rfl) ?_
  refine lv_aload_n hx hb dX8_runs_18 rfl (lv_at hl 0 rfl) ?_
  refine va_get (D := (dC, dI)) (ci := 8) (v := .ref (a 1)) (C := RX8) (T := TX8) (N := 20) hx hb hts in_X8_runs_X8 hown hK hP 0 rfl rfl 0 (by decide) (hts (.fieldLink RX8 7 "BackLoansModel" "now" "[I") (by decide +kernel)) (fun _ h9 => h9) rfl dX8_runs_19 ?_
  refine lv_iconst (v := 4) hx hb dX8_runs_22 (by decide) ?_
  obtain ⟨hi1, hf⟩ := gi_e hf
  refine va_iald hx hb hK hP 1 0 rfl rfl hi1 dX8_runs_23 ?_
  refine lv_icmp_ge (tgt := 71) hx hb dX8_runs_24 (by decide) (fun c2 => ?_) (fun c2 => ?_)
  · replace hf := it_t c2 hf
    exact hR _ _ _ _ _ dX8_runs_71 hf hP hD hS
  · replace hf := it_f c2 hf
    refine lv_aload_n hx hb dX8_runs_27 rfl (lv_at hl 0 rfl) ?_
    refine lv_iload_n hx hb dX8_runs_28 rfl (lv_at hl 1 rfl) ?_
    obtain ⟨r29, hr29, hf⟩ := bn_e hf
    have hPc := hP.sub (ws' := (wM cs a M)) [0, 1, 2, 3, 4, 5, 6, 7, 8, 9, 10, 11] rfl
    refine vp_callSi (W.runV (As := [.int (x1)]) (rest := []) C (c_X8_wants l dC dI cs a M x1 r29 hr29) (cwV 1 hts gX8_runs_X8_wants rfl rfl rfl (by decide +kernel) ⟨Nat.le_of_ble_eq_true rfl, Nat.le_of_ble_eq_true rfl⟩) ⟨(fun a U g mk q => ⟨q.1, q.2.1, GE.calling q.2.2⟩), va_recv hK hPc (ci := 8) (q0 := 0) rfl rfl, (fun U hU hW => ⟨rfl, by rw [hU]; exact hPc, GE.warm hW G⟩)⟩ rfl rfl hl.1 rfl (lv_room (Nat.le_of_ble_eq_true rfl)) dX8_runs_29 ⟨Nat.le_of_ble_eq_true rfl, Nat.le_of_ble_eq_true rfl⟩) (fun qr29 hqr29 => ?_)
    obtain rfl := hqr29.symm
    refine lv_istore_n (lv' := [(2, .int (r29)), (0, .ref (a 0)), (1, .int (x1))]) hx hb dX8_runs_32 rfl hl (by decide) rfl (fun ls hl => ?_)
    refine lv_iload_n hx hb dX8_runs_33 rfl (lv_at hl 0 rfl) ?_
    refine lv_if_le (tgt := 65) hx hb dX8_runs_34 (by decide) (fun c3 => ?_) (fun c3 => ?_)
    · replace hf := it_t c3 hf
      exact b_X8_runs_65 C G hA hR x1 M hK17 _ _ _ (lv_sub hl [1, 2] rfl) hP hD hS hf
    · replace hf := it_f c3 hf
      refine lv_iload_n hx hb dX8_runs_37 rfl (lv_at hl 0 rfl) ?_
      refine lv_aload_n hx hb dX8_runs_38 rfl (lv_at hl 1 rfl) ?_
      refine va_get (D := (dC, dI)) (ci := 8) (v := .int ((M.1 6))) (C := RX8) (T := TX8) (N := 20) hx hb hts in_X8_runs_X8 hown hK hP 0 rfl rfl 15 (by decide) (hts (.fieldLink RX8 200 "BackLoansModel" "left" "I") (by decide +kernel)) (fun _ h9 => h9) rfl dX8_runs_39 ?_
      refine lv_icmp_gt (tgt := 65) hx hb dX8_runs_42 (by decide) (fun c4 => ?_) (fun c4 => ?_)
      · replace hf := it_t c4 hf
        exact b_X8_runs_65 C G hA hR x1 M hK17 _ _ _ (lv_sub hl [1, 2] rfl) hP hD hS hf
      · replace hf := it_f c4 hf
        refine lv_aload_n hx hb dX8_runs_45 rfl (lv_at hl 1 rfl) ?_
        refine lv_dup hx hb dX8_runs_46 rfl ?_
        refine va_get (D := (dC, dI)) (ci := 8) (v := .int ((M.1 6))) (C := RX8) (T := TX8) (N := 20) hx hb hts in_X8_runs_X8 hown hK hP 0 rfl rfl 15 (by decide) (hts (.fieldLink RX8 200 "BackLoansModel" "left" "I") (by decide +kernel)) (fun _ h9 => h9) rfl dX8_runs_47 ?_
        refine lv_iload_n hx hb dX8_runs_50 rfl (lv_at hl 0 rfl) ?_
        refine lv_isub hx hb dX8_runs_51 ?_
        refine va_put (D := (dC, dI)) (ci := 8) (v := .int (((M.1 6) - r29))) (ty := .int) (C := RX8) (T := TX8) (N := 20) hx hb hts in_X8_runs_X8 tyX8 tyX8_ok nmX8 hown hK hP hD hS 0 rfl rfl 15 (by decide) (hts (.fieldLink RX8 200 "BackLoansModel" "left" "I") (by decide +kernel)) (fun _ h9 => h9) rfl (by decide +kernel) rfl rfl (Nat.le_of_ble_eq_true rfl) dX8_runs_52 (fun H locs hP hD hS => ?_)
        obtain ⟨M_52, hP, hD, hf⟩ := st_nm (ws := fun M_52 : Ms => (wM cs a M_52)) ((upd M.1 6 (((M.1 6) - r29)), M.2)) hP hD hf
        refine lv_aload_n hx hb dX8_runs_55 rfl (lv_at hl 1 rfl) ?_
        refine lv_dup hx hb dX8_runs_56 rfl ?_
        refine va_get (D := (dC, dI)) (ci := 8) (v := .int ((M_52.1 5))) (C := RX8) (T := TX8) (N := 20) hx hb hts in_X8_runs_X8 hown hK hP 0 rfl rfl 14 (by decide) (hts (.fieldLink RX8 197 "BackLoansModel" "paidMany" "I") (by decide +kernel)) (fun _ h9 => h9) rfl dX8_runs_57 ?_
        refine lv_iconst (v := 1) hx hb dX8_runs_60 (by decide) ?_
        refine lv_iadd hx hb dX8_runs_61 ?_
        refine va_put (D := (dC, dI)) (ci := 8) (v := .int (((M_52.1 5) + (1 : Int32)))) (ty := .int) (C := RX8) (T := TX8) (N := 20) hx hb hts in_X8_runs_X8 tyX8 tyX8_ok nmX8 hown hK hP hD hS 0 rfl rfl 14 (by decide) (hts (.fieldLink RX8 197 "BackLoansModel" "paidMany" "I") (by decide +kernel)) (fun _ h9 => h9) rfl (by decide +kernel) rfl rfl (Nat.le_of_ble_eq_true rfl) dX8_runs_62 (fun H locs hP hD hS => ?_)
        obtain ⟨M_62, hP, hD, hf⟩ := st_nm (ws := fun M_62 : Ms => (wM cs a M_62)) ((upd M_52.1 5 (((M_52.1 5) + (1 : Int32))), M_52.2)) hP hD hf
        exact b_X8_runs_65 C G hA hR x1 M_62 hK17 _ _ _ (lv_sub hl [1, 2] rfl) hP hD hS hf
def l_X8_runs_17   (n : Nat) (x1 : Int32) (M : Ms) : Option Ms := itr (fun (k : Int32 × Ms → Option Ms) (z : Int32 × Ms) => f_X8_runs_17 z.1 z.2 (fun x1 M => k (x1, M))) n (x1, M)
set_option maxHeartbeats 4000000 in
set_option maxRecDepth 100000 in
theorem w_X8_runs_17 {p : Program} {l : Launch} {e : Env} {s : State} {m : MethodId} {args : Array Value} {below : List Frame} {meth : Method} {c : Code} {Q : State → Prop} {dC : Nat → ClassId} {dI : Nat → Nat → Nat} {cs : Nat → ClassId} {A : Nat → Prop} {a : Nat → Nat} {res : Ms} (C : CallFix p m c cX8_runs 3 s args wsX8_runs RX8) (G : GE dC dI cs s) (hA : ∀ q : Nat, s.heap.size ≤ q → A q) (hR : RTv p l e ({ frames := 2, cells := 0, slots := 0, locals := 44 }) s m args below meth c cX8_runs Q (dC, dI) A (fun u : Ms => (wM cs a u)) res)    : ∀ (n : Nat) (x1 : Int32) (M : Ms) (H : Heap) (locs : List Loc) (ls : Array Slot), lv_has ls 3 [(0, .ref (a 0)), (1, .int (x1))] → va_P (dC, dI) vwCl (wM cs a M) H → va_D A (wM cs a M) → va_S A s.heap H locs → l_X8_runs_17 n x1 M = some res → W p l e ({ frames := 2, cells := 0, slots := 0, locals := 44 }) s m args below meth c H locs 0 0 Q (F0 m 17 ls []) := by
  intro n
  induction n with
  | zero => intro x1 M H locs ls hl hP hD hS hf; exact absurd hf (by simp [l_X8_runs_17, itr])
  | succ n ih =>
    intro x1 M H locs ls hl hP hD hS hf
    replace hf : f_X8_runs_17 x1 M (fun x1 M => l_X8_runs_17 n x1 M) = some res := by rw [← hf]; unfold l_X8_runs_17; rw [itr_s]
    exact b_X8_runs_17 C G hA hR x1 M (K17 := fun x1 M => l_X8_runs_17 n x1 M) (fun x1 M H locs ls hl hP hD hS hf => ih x1 M H locs ls hl hP hD hS hf) H locs ls hl hP hD hS hf
def f_X8_runs  (M : Ms) : Option Ms :=
  lett ((upd M.1 5 ((0 : Int32)), M.2)) fun M_2 =>
  gi ((0 : Int32)) 362 <|
  lett ((upd M_2.1 6 (((M_2.2.2 0) ((0 : Int32)).toNatClampNeg)), M_2.2)) fun M_12 =>
  lett (0 : Int32) fun x1_16 =>
  l_X8_runs_17 FU x1_16 M_12
set_option maxHeartbeats 4000000 in
set_option maxRecDepth 100000 in
theorem c_X8_runs (l : Launch) (dC : Nat → ClassId) (dI : Nat → Nat → Nat) (cs : Nat → ClassId) (a : Nat → Nat) (sz : Nat) (M : Ms)  (res : Ms) (hf : f_X8_runs M = some res) : Met l yX8_runs wsX8_runs ({ frames := 2, cells := 0, slots := 0, locals := 44 }) (va_Pc [.ref (a 0)] (fun U => U.heap.size = sz ∧ va_P (dC, dI) vwCl (wM cs a M) U.heap ∧ GE dC dI cs U ∧ va_D (fun _ => True) (wM cs a M))) (va_Qv (fun u : Ms => u = res) (fun u t => va_P (dC, dI) vwCl ((fun u : Ms => (wM cs a u)) u) t.heap ∧ va_D (va_A (wM cs a M) sz) ((fun u : Ms => (wM cs a u)) u)) (va_A (wM cs a M) sz)) 0 0 (va_A (wM cs a M) sz) := by
  refine Met.ofW (cc := cX8_runs) (maxL := 3) (ret := none) (by decide) rfl ?_
  intro p e s m args below meth c s₁ Bd hml hv
  obtain ⟨rfl, hsz, hP, G, hD0⟩ := hv
  have hts := atoms_spec (ws := wsX8_runs) Bd.pre
  have hown : s.vm.findClass RX8 = some m.cls := findClass_of_methodNamed Bd.named
  have hlocks := Bd.notSynchronized
  have hx := Bd.exec
  have hb := Bd.bytes
  have hr := Bd.returns
  have C : CallFix p m c cX8_runs 3 s _ wsX8_runs RX8 := ⟨hx, hb, hml, hown, hts⟩
  obtain ⟨hK, hN⟩ := id G
  subst hsz
  have hD := hD0.self (sz := s.heap.size)
  generalize hAe : va_A (wM cs a M) s.heap.size = A at hD ⊢
  have hA : ∀ q : Nat, s.heap.size ≤ q → A q := fun q h => by rw [← hAe]; exact Or.inr h
  have hS : va_S A s.heap s.heap [] := va_S.rf
  have hR : RTv p l e ({ frames := 2, cells := 0, slots := 0, locals := 44 }) s m ([.ref (a 0)] : List Value).toArray below meth c cX8_runs (MQ below (va_Qv (fun u : Ms => u = res) (fun u t => va_P (dC, dI) vwCl ((fun u : Ms => (wM cs a u)) u) t.heap ∧ va_D A ((fun u : Ms => (wM cs a u)) u)) A) ([.ref (a 0)] : List Value).toArray s 0 0 A) (dC, dI) A (fun u : Ms => (wM cs a u)) res := fun H locs pc ls u dd h hP hD hS => W.vret hx hb hr (fun t ht hW => ⟨⟨u, rfl, by cases h; rfl, by rw [ht]; exact hP, hD⟩, hS.F ht⟩) hS.2.2 dd
  have hl := lv_entry ([.ref (a 0)]) (n := 3) (Nat.le_of_ble_eq_true rfl)
  rw [lg_entry_eq]
  generalize (lg_sl ([.ref (a 0)]) ++ List.replicate (3 - (lg_sl ([.ref (a 0)])).length) Slot.unset).toArray = ls at hl ⊢
  have hl : lv_has ls 3 [(0, .ref (a 0))] := hl
  unfold f_X8_runs at hf
  refine lv_aload_n hx hb dX8_runs_0 rfl (lv_at hl 0 rfl) ?_
  refine lv_iconst (v := 0) hx hb dX8_runs_1 (by decide) ?_
  refine va_put (D := (dC, dI)) (ci := 8) (v := .int ((0 : Int32))) (ty := .int) (C := RX8) (T := TX8) (N := 20) hx hb hts in_X8_runs_X8 tyX8 tyX8_ok nmX8 hown hK hP hD hS 0 rfl rfl 14 (by decide) (hts (.fieldLink RX8 197 "BackLoansModel" "paidMany" "I") (by decide +kernel)) (fun _ h9 => h9) rfl (by decide +kernel) rfl rfl (Nat.le_of_ble_eq_true rfl) dX8_runs_2 (fun H locs hP hD hS => ?_)
  obtain ⟨M_2, hP, hD, hf⟩ := st_nm (ws := fun M_2 : Ms => (wM cs a M_2)) ((upd M.1 5 ((0 : Int32)), M.2)) hP hD hf
  refine lv_aload_n hx hb dX8_runs_5 rfl (lv_at hl 0 rfl) ?_
  refine lv_aload_n hx hb dX8_runs_6 rfl (lv_at hl 0 rfl) ?_
  refine va_get (D := (dC, dI)) (ci := 8) (v := .ref (a 1)) (C := RX8) (T := TX8) (N := 20) hx hb hts in_X8_runs_X8 hown hK hP 0 rfl rfl 0 (by decide) (hts (.fieldLink RX8 7 "BackLoansModel" "now" "[I") (by decide +kernel)) (fun _ h9 => h9) rfl dX8_runs_7 ?_
  refine lv_iconst (v := 0) hx hb dX8_runs_10 (by decide) ?_
  obtain ⟨hi1, hf⟩ := gi_e hf
  refine va_iald hx hb hK hP 1 0 rfl rfl hi1 dX8_runs_11 ?_
  refine va_put (D := (dC, dI)) (ci := 8) (v := .int (((M_2.2.2 0) ((0 : Int32)).toNatClampNeg))) (ty := .int) (C := RX8) (T := TX8) (N := 20) hx hb hts in_X8_runs_X8 tyX8 tyX8_ok nmX8 hown hK hP hD hS 0 rfl rfl 15 (by decide) (hts (.fieldLink RX8 200 "BackLoansModel" "left" "I") (by decide +kernel)) (fun _ h9 => h9) rfl (by decide +kernel) rfl rfl (Nat.le_of_ble_eq_true rfl) dX8_runs_12 (fun H locs hP hD hS => ?_)
  obtain ⟨M_12, hP, hD, hf⟩ := st_nm (ws := fun M_12 : Ms => (wM cs a M_12)) ((upd M_2.1 6 (((M_2.2.2 0) ((0 : Int32)).toNatClampNeg)), M_2.2)) hP hD hf
  refine lv_iconst (v := 0) hx hb dX8_runs_15 (by decide) ?_
  refine lv_topi (fun x1_16 ex1_16 => ?_)
  replace hf := lett_s ex1_16 hf
  refine lv_istore_n (lv' := [(1, .int (x1_16)), (0, .ref (a 0))]) hx hb dX8_runs_16 rfl hl (by decide) rfl (fun ls hl => ?_)
  exact w_X8_runs_17 C G hA hR FU x1_16 M_12 _ _ _ (lv_sub hl [1, 0] rfl) hP hD hS hf

theorem in_X8_run_X8 : ∀ w ∈ wsX80, w ∈ wsX8_run := by decide +kernel
def f_X8_run_39 (x2 : Int32) (x3 : Int32) (M : Ms) (K39 : Int32 → Int32 → Option (Int32 × Ms)) (K63 : Int32 → Option (Int32 × Ms)) : Option (Int32 × Ms) :=
  gi ((4 : Int32)) 362 <|
  if ((M.2.2 0) ((4 : Int32)).toNatClampNeg) ≤ x3 then (
    K63 x2
  ) else (
    bn (f_X8_wants x3 M) fun r52 =>
    lett (x2 + r52) fun x2_56 =>
    lett (x3 + 1) fun x3_57 =>
    K39 x2_56 x3_57
  )
set_option maxHeartbeats 4000000 in
set_option maxRecDepth 100000 in
theorem b_X8_run_39 {p : Program} {l : Launch} {e : Env} {s : State} {m : MethodId} {args : Array Value} {below : List Frame} {meth : Method} {c : Code} {Q : State → Prop} {dC : Nat → ClassId} {dI : Nat → Nat → Nat} {cs : Nat → ClassId} {A : Nat → Prop} {a : Nat → Nat} {res : Int32 × Ms} (C : CallFix p m c cX8_run 4 s args wsX8_run RX8) (G : GE dC dI cs s) (hA : ∀ q : Nat, s.heap.size ≤ q → A q) (hR : RTi p l e ({ frames := 3, cells := 0, slots := 0, locals := 71 }) s m args below meth c cX8_run Q (dC, dI) A (fun u : Ms => (wM cs a u)) res) (x2 : Int32) (x3 : Int32) (M : Ms) {K39 : Int32 → Int32 → Option (Int32 × Ms)} {K63 : Int32 → Option (Int32 × Ms)} (hK39 : ∀ (x2 : Int32) (x3 : Int32) (H : Heap) (locs : List Loc) (ls : Array Slot), lv_has ls 4 [(0, .ref (a 0)), (2, .int (x2)), (3, .int (x3))] → va_P (dC, dI) vwCl (wM cs a M) H → va_D A (wM cs a M) → va_S A s.heap H locs → K39 x2 x3 = some res → W p l e ({ frames := 3, cells := 0, slots := 0, locals := 71 }) s m args below meth c H locs 0 0 Q (F0 m 39 ls [])) (hK63 : ∀ (x2 : Int32) (H : Heap) (locs : List Loc) (ls : Array Slot), lv_has ls 4 [(2, .int (x2))] → va_P (dC, dI) vwCl (wM cs a M) H → va_D A (wM cs a M) → va_S A s.heap H locs → K63 x2 = some res → W p l e ({ frames := 3, cells := 0, slots := 0, locals := 71 }) s m args below meth c H locs 0 0 Q (F0 m 63 ls [])) (H : Heap) (locs : List Loc) (ls : Array Slot) (hl : lv_has ls 4 [(0, .ref (a 0)), (2, .int (x2)), (3, .int (x3))]) (hP : va_P (dC, dI) vwCl (wM cs a M) H) (hD : va_D A (wM cs a M)) (hS : va_S A s.heap H locs) (hf : f_X8_run_39 x2 x3 M K39 K63 = some res) : W p l e ({ frames := 3, cells := 0, slots := 0, locals := 71 }) s m args below meth c H locs 0 0 Q (F0 m 39 ls []) := by
  obtain ⟨hx, hb, hml, hown, hts⟩ := id C
  obtain ⟨hK, hN⟩ := id G
  unfold f_X8_run_39 at hf
  refine lv_iload_n hx hb dX8_run_39 rfl (lv_at hl 2 rfl) ?_
  refine lv_aload_n hx hb dX8_run_40 rfl (lv_at hl 0 rfl) ?_
  refine va_get (D := (dC, dI)) (ci := 8) (v := .ref (a 1)) (C := RX8) (T := TX8) (N := 20) hx hb hts in_X8_run_X8 hown hK hP 0 rfl rfl 0 (by decide) (hts (.fieldLink RX8 7 "BackLoansModel" "now" "[I") (by decide +kernel)) (fun _ h9 => h9) rfl dX8_run_41 ?_
  refine lv_iconst (v := 4) hx hb dX8_run_44 (by decide) ?_
  obtain ⟨hi1, hf⟩ := gi_e hf
  refine va_iald hx hb hK hP 1 0 rfl rfl hi1 dX8_run_45 ?_
  refine lv_icmp_ge (tgt := 63) hx hb dX8_run_46 (by decide) (fun c2 => ?_) (fun c2 => ?_)
  · replace hf := it_t c2 hf
    exact hK63 x2 _ _ _ (lv_sub hl [1] rfl) hP hD hS hf
  · replace hf := it_f c2 hf
    refine lv_iload_n hx hb dX8_run_49 rfl (lv_at hl 1 rfl) ?_
    refine lv_aload_n hx hb dX8_run_50 rfl (lv_at hl 0 rfl) ?_
    refine lv_iload_n hx hb dX8_run_51 rfl (lv_at hl 2 rfl) ?_
    obtain ⟨r52, hr52, hf⟩ := bn_e hf
    have hPc := hP.sub (ws' := (wM cs a M)) [0, 1, 2, 3, 4, 5, 6, 7, 8, 9, 10, 11] rfl
    refine vp_callSi (W.runV (As := [.int (x3)]) (rest := [.int (x2)]) C (c_X8_wants l dC dI cs a M x3 r52 hr52) (cwV 1 hts gX8_run_X8_wants rfl rfl rfl (by decide +kernel) ⟨Nat.le_of_ble_eq_true rfl, Nat.le_of_ble_eq_true rfl⟩) ⟨(fun a U g mk q => ⟨q.1, q.2.1, GE.calling q.2.2⟩), va_recv hK hPc (ci := 8) (q0 := 0) rfl rfl, (fun U hU hW => ⟨rfl, by rw [hU]; exact hPc, GE.warm hW G⟩)⟩ rfl rfl hl.1 rfl (lv_room (Nat.le_of_ble_eq_true rfl)) dX8_run_52 ⟨Nat.le_of_ble_eq_true rfl, Nat.le_of_ble_eq_true rfl⟩) (fun qr52 hqr52 => ?_)
    obtain rfl := hqr52.symm
    refine lv_iadd hx hb dX8_run_55 ?_
    refine lv_topi (fun x2_56 ex2_56 => ?_)
    replace hf := lett_s ex2_56 hf
    refine lv_istore_n (lv' := [(2, .int (x2_56)), (0, .ref (a 0)), (3, .int (x3))]) hx hb dX8_run_56 rfl hl (by decide) rfl (fun ls hl => ?_)
    obtain ⟨x3_57, ex3_57⟩ : ∃ y : Int32, y = (x3 + 1) := ⟨_, rfl⟩
    replace hf := lett_s ex3_57 hf
    refine lv_iinc (v := x3_57) (lv' := [(3, .int (x3_57)), (2, .int (x2_56)), (0, .ref (a 0))]) hx hb dX8_run_57 hl (k := 2) rfl (by rw [ex3_57]; rfl) (by decide) rfl (fun ls hl => ?_)
    refine lv_goto (tgt := 39) hx hb dX8_run_60 (by decide) ?_
    exact hK39 x2_56 x3_57 _ _ _ (lv_sub hl [2, 1, 0] rfl) hP hD hS hf
def l_X8_run_39 (M : Ms) (K63 : Int32 → Option (Int32 × Ms)) (n : Nat) (x2 : Int32) (x3 : Int32) : Option (Int32 × Ms) := itr (fun (k : Int32 × Int32 → Option (Int32 × Ms)) (z : Int32 × Int32) => f_X8_run_39 z.1 z.2 M (fun x2 x3 => k (x2, x3)) K63) n (x2, x3)
set_option maxHeartbeats 4000000 in
set_option maxRecDepth 100000 in
theorem w_X8_run_39 {p : Program} {l : Launch} {e : Env} {s : State} {m : MethodId} {args : Array Value} {below : List Frame} {meth : Method} {c : Code} {Q : State → Prop} {dC : Nat → ClassId} {dI : Nat → Nat → Nat} {cs : Nat → ClassId} {A : Nat → Prop} {a : Nat → Nat} {res : Int32 × Ms} (C : CallFix p m c cX8_run 4 s args wsX8_run RX8) (G : GE dC dI cs s) (hA : ∀ q : Nat, s.heap.size ≤ q → A q) (hR : RTi p l e ({ frames := 3, cells := 0, slots := 0, locals := 71 }) s m args below meth c cX8_run Q (dC, dI) A (fun u : Ms => (wM cs a u)) res) (M : Ms) {K63 : Int32 → Option (Int32 × Ms)} (hK63 : ∀ (x2 : Int32) (H : Heap) (locs : List Loc) (ls : Array Slot), lv_has ls 4 [(2, .int (x2))] → va_P (dC, dI) vwCl (wM cs a M) H → va_D A (wM cs a M) → va_S A s.heap H locs → K63 x2 = some res → W p l e ({ frames := 3, cells := 0, slots := 0, locals := 71 }) s m args below meth c H locs 0 0 Q (F0 m 63 ls [])) : ∀ (n : Nat) (x2 : Int32) (x3 : Int32) (H : Heap) (locs : List Loc) (ls : Array Slot), lv_has ls 4 [(0, .ref (a 0)), (2, .int (x2)), (3, .int (x3))] → va_P (dC, dI) vwCl (wM cs a M) H → va_D A (wM cs a M) → va_S A s.heap H locs → l_X8_run_39 M K63 n x2 x3 = some res → W p l e ({ frames := 3, cells := 0, slots := 0, locals := 71 }) s m args below meth c H locs 0 0 Q (F0 m 39 ls []) := by
  intro n
  induction n with
  | zero => intro x2 x3 H locs ls hl hP hD hS hf; exact absurd hf (by simp [l_X8_run_39, itr])
  | succ n ih =>
    intro x2 x3 H locs ls hl hP hD hS hf
    replace hf : f_X8_run_39 x2 x3 M (fun x2 x3 => l_X8_run_39 M K63 n x2 x3) K63 = some res := by rw [← hf]; unfold l_X8_run_39; rw [itr_s]
    exact b_X8_run_39 C G hA hR x2 x3 M (K39 := fun x2 x3 => l_X8_run_39 M K63 n x2 x3) (fun x2 x3 H locs ls hl hP hD hS hf => ih x2 x3 H locs ls hl hP hD hS hf) hK63 H locs ls hl hP hD hS hf
def f_X8_run_63 (x2 : Int32) (M : Ms)  : Option (Int32 × Ms) :=
  if 0 ≤ x2 then (
    some (x2, M)
  ) else (
    some ((0 : Int32), M)
  )
set_option maxHeartbeats 4000000 in
set_option maxRecDepth 100000 in
theorem b_X8_run_63 {p : Program} {l : Launch} {e : Env} {s : State} {m : MethodId} {args : Array Value} {below : List Frame} {meth : Method} {c : Code} {Q : State → Prop} {dC : Nat → ClassId} {dI : Nat → Nat → Nat} {cs : Nat → ClassId} {A : Nat → Prop} {a : Nat → Nat} {res : Int32 × Ms} (C : CallFix p m c cX8_run 4 s args wsX8_run RX8) (G : GE dC dI cs s) (hA : ∀ q : Nat, s.heap.size ≤ q → A q) (hR : RTi p l e ({ frames := 3, cells := 0, slots := 0, locals := 71 }) s m args below meth c cX8_run Q (dC, dI) A (fun u : Ms => (wM cs a u)) res) (x2 : Int32) (M : Ms)   (H : Heap) (locs : List Loc) (ls : Array Slot) (hl : lv_has ls 4 [(2, .int (x2))]) (hP : va_P (dC, dI) vwCl (wM cs a M) H) (hD : va_D A (wM cs a M)) (hS : va_S A s.heap H locs) (hf : f_X8_run_63 x2 M = some res) : W p l e ({ frames := 3, cells := 0, slots := 0, locals := 71 }) s m args below meth c H locs 0 0 Q (F0 m 63 ls []) := by
  obtain ⟨hx, hb, hml, hown, hts⟩ := id C
  obtain ⟨hK, hN⟩ := id G
  unfold f_X8_run_63 at hf
  refine lv_iload_n hx hb dX8_run_63 rfl (lv_at hl 0 rfl) ?_
  refine lv_if_ge (tgt := 71) hx hb dX8_run_64 (by decide) (fun c1 => ?_) (fun c1 => ?_)
  · replace hf := it_t c1 hf
    refine lv_iload_n hx hb dX8_run_71 rfl (lv_at hl 0 rfl) ?_
    exact hR _ _ _ _ _ _ dX8_run_72 hf hP hD hS
  · replace hf := it_f c1 hf
    refine lv_iconst (v := 0) hx hb dX8_run_67 (by decide) ?_
    refine lv_goto (tgt := 72) hx hb dX8_run_68 (by decide) ?_
    exact hR _ _ _ _ _ _ dX8_run_72 hf hP hD hS
def f_X8_run (x1 : Int32) (M : Ms) : Option (Int32 × Ms) :=
  bn (f_X8_in x1 (0 : Int32) (3 : Int32)) fun r3 =>
  if r3 = 0 then (
    bn (f_X8_bad M) fun r10 =>
    some (r10.1, r10.2)
  ) else (
    if x1 = (2 : Int32) then (
      bn (f_X8_ordered M) fun r20 =>
      some (r20, M)
    ) else (
      if x1 = (3 : Int32) then (
        gi ((0 : Int32)) 362 <|
        lett (-((M.2.2 0) ((0 : Int32)).toNatClampNeg)) fun x2_36 =>
        lett (0 : Int32) fun x3_38 =>
        l_X8_run_39 M (fun x2 => f_X8_run_63 x2 M) FU x2_36 x3_38
      ) else (
        bn (f_X8_runs M) fun r74 =>
        if x1 = 0 then (
          some ((r74.1 5), r74)
        ) else (
          some ((r74.1 6), r74)
        )
      )
    )
  )
set_option maxHeartbeats 4000000 in
set_option maxRecDepth 100000 in
theorem c_X8_run (l : Launch) (dC : Nat → ClassId) (dI : Nat → Nat → Nat) (cs : Nat → ClassId) (a : Nat → Nat) (sz : Nat) (M : Ms) (x1 : Int32) (res : Int32 × Ms) (hf : f_X8_run x1 M = some res) : Met l yX8_run wsX8_run ({ frames := 3, cells := 0, slots := 0, locals := 71 }) (va_Pc [.ref (a 0), .int (x1)] (fun U => U.heap.size = sz ∧ va_P (dC, dI) vwCl (wM cs a M) U.heap ∧ GE dC dI cs U ∧ va_D (fun _ => True) (wM cs a M))) (va_Qi (fun r (u : Ms) => r = res.1 ∧ u = res.2) (fun u t => va_P (dC, dI) vwCl ((fun u : Ms => (wM cs a u)) u) t.heap ∧ va_D (va_A (wM cs a M) sz) ((fun u : Ms => (wM cs a u)) u)) (va_A (wM cs a M) sz)) 0 0 (va_A (wM cs a M) sz) := by
  refine Met.ofW (cc := cX8_run) (maxL := 4) (ret := (some .int)) (by decide) rfl ?_
  intro p e s m args below meth c s₁ Bd hml hv
  obtain ⟨rfl, hsz, hP, G, hD0⟩ := hv
  have hts := atoms_spec (ws := wsX8_run) Bd.pre
  have hown : s.vm.findClass RX8 = some m.cls := findClass_of_methodNamed Bd.named
  have hlocks := Bd.notSynchronized
  have hx := Bd.exec
  have hb := Bd.bytes
  have hr := Bd.returns
  have C : CallFix p m c cX8_run 4 s _ wsX8_run RX8 := ⟨hx, hb, hml, hown, hts⟩
  obtain ⟨hK, hN⟩ := id G
  subst hsz
  have hD := hD0.self (sz := s.heap.size)
  generalize hAe : va_A (wM cs a M) s.heap.size = A at hD ⊢
  have hA : ∀ q : Nat, s.heap.size ≤ q → A q := fun q h => by rw [← hAe]; exact Or.inr h
  have hS : va_S A s.heap s.heap [] := va_S.rf
  have hR : RTi p l e ({ frames := 3, cells := 0, slots := 0, locals := 71 }) s m ([.ref (a 0), .int (x1)] : List Value).toArray below meth c cX8_run (MQ below (va_Qi (fun r (u : Ms) => r = res.1 ∧ u = res.2) (fun u t => va_P (dC, dI) vwCl ((fun u : Ms => (wM cs a u)) u) t.heap ∧ va_D A ((fun u : Ms => (wM cs a u)) u)) A) ([.ref (a 0), .int (x1)] : List Value).toArray s 0 0 A) (dC, dI) A (fun u : Ms => (wM cs a u)) res := fun H locs pc ls r u dd h hP hD hS => W.iret hx hb hr (fun t ht hW => ⟨⟨r, u, rfl, by cases h; exact ⟨rfl, rfl⟩, by rw [ht]; exact hP, hD⟩, hS.F ht⟩) hS.2.2 dd
  have hl := lv_entry ([.ref (a 0), .int (x1)]) (n := 4) (Nat.le_of_ble_eq_true rfl)
  rw [lg_entry_eq]
  generalize (lg_sl ([.ref (a 0), .int (x1)]) ++ List.replicate (4 - (lg_sl ([.ref (a 0), .int (x1)])).length) Slot.unset).toArray = ls at hl ⊢
  have hl : lv_has ls 4 [(0, .ref (a 0)), (1, .int (x1))] := hl
  unfold f_X8_run at hf
  refine lv_iload_n hx hb dX8_run_0 rfl (lv_at hl 1 rfl) ?_
  refine lv_iconst (v := 0) hx hb dX8_run_1 (by decide) ?_
  refine lv_iconst (v := 3) hx hb dX8_run_2 (by decide) ?_
  obtain ⟨r3, hr3, hf⟩ := bn_e hf
  have hPc := hP.sub (ws' := ([] : va_W)) [] rfl
  refine vp_callSi (W.runS (As := [.int (x1), .int ((0 : Int32)), .int ((3 : Int32))]) (rest := []) C (c_X8_in l dC dI cs x1 (0 : Int32) (3 : Int32) r3 hr3) (va_cwS 3 hts gX8_run_X8_in rfl rfl rfl (by decide +kernel) ⟨Nat.le_of_ble_eq_true rfl, Nat.le_of_ble_eq_true rfl⟩) ⟨(fun a U g mk q => ⟨q.1, q.2.1, GE.calling q.2.2⟩), (fun U hU hW => ⟨rfl, by rw [hU]; exact hPc, GE.warm hW G⟩)⟩ rfl rfl hl.1 rfl (lv_room (Nat.le_of_ble_eq_true rfl)) dX8_run_3 ⟨Nat.le_of_ble_eq_true rfl, Nat.le_of_ble_eq_true rfl⟩) (fun qr3 hqr3 => ?_)
  obtain ⟨hqr3, hnr3⟩ := hqr3
  obtain rfl := hqr3.symm
  refine lv_if_ne (tgt := 14) hx hb dX8_run_6 (by decide) (fun c1 => ?_) (fun c1 => ?_)
  · replace hf := it_f c1 hf
    refine lv_iload_n hx hb dX8_run_14 rfl (lv_at hl 1 rfl) ?_
    refine lv_iconst (v := 2) hx hb dX8_run_15 (by decide) ?_
    refine lv_icmp_ne (tgt := 24) hx hb dX8_run_16 (by decide) (fun c2 => ?_) (fun c2 => ?_)
    · replace hf := it_f c2 hf
      refine lv_iload_n hx hb dX8_run_24 rfl (lv_at hl 1 rfl) ?_
      refine lv_iconst (v := 3) hx hb dX8_run_25 (by decide) ?_
      refine lv_icmp_ne (tgt := 73) hx hb dX8_run_26 (by decide) (fun c3 => ?_) (fun c3 => ?_)
      · replace hf := it_f c3 hf
        refine lv_aload_n hx hb dX8_run_73 rfl (lv_at hl 0 rfl) ?_
        obtain ⟨r74, hr74, hf⟩ := bn_e hf
        have hPc := hP.sub (ws' := (wM cs a M)) [0, 1, 2, 3, 4, 5, 6, 7, 8, 9, 10, 11] rfl
        have hDc := hD.sub (ws' := (wM cs a M)) [0, 1, 2, 3, 4, 5, 6, 7, 8, 9, 10, 11] (by decide) rfl
        have hFc := va_free (wc := (wM cs a M)) hD hS hA [0, 1, 2, 3, 4, 5, 6, 7, 8, 9, 10, 11] rfl
        refine va_callv (va_runV (As := []) (rest := []) C (c_X8_runs l dC dI cs a s.heap.size M r74 hr74) (cwV 0 hts gX8_run_X8_runs rfl rfl rfl (by decide +kernel) ⟨Nat.le_of_ble_eq_true rfl, Nat.le_of_ble_eq_true rfl⟩) ⟨(fun a U g mk q => ⟨q.1, q.2.1, q.2.2.1, GE.calling q.2.2.2.1, q.2.2.2.2⟩), va_recv hK hPc (ci := 8) (q0 := 0) rfl rfl, (fun U hU hW => ⟨rfl, by rw [hU], by rw [hU]; exact hPc, GE.warm hW G, hDc.weaken (fun _ _ _ _ => trivial)⟩)⟩ rfl rfl hl.1 rfl (lv_room (Nat.le_of_ble_eq_true rfl)) dX8_run_74 ⟨Nat.le_of_ble_eq_true rfl, Nat.le_of_ble_eq_true rfl⟩) hS (fun q _ h => hFc q h) hFc (fun u t H1 locs ht hvm hw hB hz1 hk1 hS => ?_)
        obtain rfl := hw.symm
        obtain ⟨hP1, hD1⟩ := hB
        rw [ht] at hP1
        obtain ⟨hP, hD⟩ := va_join (wr := []) (w1 := (wM cs a r74)) hP hD [0, 1, 2, 3, 4, 5, 6, 7, 8, 9, 10, 11] [] rfl rfl (by decide) (by decide) hk1 hFc hP1 hD1
        generalize H1 = H at hP hS ⊢
        have hP := hP.sub (ws' := (wM cs a r74)) [0, 1, 2, 3, 4, 5, 6, 7, 8, 9, 10, 11] rfl
        have hD := hD.sub (ws' := (wM cs a r74)) [0, 1, 2, 3, 4, 5, 6, 7, 8, 9, 10, 11] (by decide) rfl
        refine lv_iload_n hx hb dX8_run_77 rfl (lv_at hl 1 rfl) ?_
        refine lv_if_ne (tgt := 88) hx hb dX8_run_78 (by decide) (fun c4 => ?_) (fun c4 => ?_)
        · replace hf := it_f c4 hf
          refine lv_aload_n hx hb dX8_run_88 rfl (lv_at hl 0 rfl) ?_
          refine va_get (D := (dC, dI)) (ci := 8) (v := .int ((r74.1 6))) (C := RX8) (T := TX8) (N := 20) hx hb hts in_X8_run_X8 hown hK hP 0 rfl rfl 15 (by decide) (hts (.fieldLink RX8 200 "BackLoansModel" "left" "I") (by decide +kernel)) (fun _ h9 => h9) rfl dX8_run_89 ?_
          exact hR _ _ _ _ _ _ dX8_run_92 hf hP hD hS
        · replace hf := it_t c4 hf
          refine lv_aload_n hx hb dX8_run_81 rfl (lv_at hl 0 rfl) ?_
          refine va_get (D := (dC, dI)) (ci := 8) (v := .int ((r74.1 5))) (C := RX8) (T := TX8) (N := 20) hx hb hts in_X8_run_X8 hown hK hP 0 rfl rfl 14 (by decide) (hts (.fieldLink RX8 197 "BackLoansModel" "paidMany" "I") (by decide +kernel)) (fun _ h9 => h9) rfl dX8_run_82 ?_
          refine lv_goto (tgt := 92) hx hb dX8_run_85 (by decide) ?_
          exact hR _ _ _ _ _ _ dX8_run_92 hf hP hD hS
      · replace hf := it_t c3 hf
        refine lv_aload_n hx hb dX8_run_29 rfl (lv_at hl 0 rfl) ?_
        refine va_get (D := (dC, dI)) (ci := 8) (v := .ref (a 1)) (C := RX8) (T := TX8) (N := 20) hx hb hts in_X8_run_X8 hown hK hP 0 rfl rfl 0 (by decide) (hts (.fieldLink RX8 7 "BackLoansModel" "now" "[I") (by decide +kernel)) (fun _ h9 => h9) rfl dX8_run_30 ?_
        refine lv_iconst (v := 0) hx hb dX8_run_33 (by decide) ?_
        obtain ⟨hi5, hf⟩ := gi_e hf
        refine va_iald hx hb hK hP 1 0 rfl rfl hi5 dX8_run_34 ?_
        refine lv_ineg hx hb dX8_run_35 ?_
        refine lv_topi (fun x2_36 ex2_36 => ?_)
        replace hf := lett_s ex2_36 hf
        refine lv_istore_n (lv' := [(2, .int (x2_36)), (0, .ref (a 0)), (1, .int (x1))]) hx hb dX8_run_36 rfl hl (by decide) rfl (fun ls hl => ?_)
        refine lv_iconst (v := 0) hx hb dX8_run_37 (by decide) ?_
        refine lv_topi (fun x3_38 ex3_38 => ?_)
        replace hf := lett_s ex3_38 hf
        refine lv_istore_n (lv' := [(3, .int (x3_38)), (2, .int (x2_36)), (0, .ref (a 0)), (1, .int (x1))]) hx hb dX8_run_38 rfl hl (by decide) rfl (fun ls hl => ?_)
        exact w_X8_run_39 C G hA hR M (fun x2 H locs ls hl hP hD hS hf => b_X8_run_63 C G hA hR x2 M _ _ _ hl hP hD hS hf) FU x2_36 x3_38 _ _ _ (lv_sub hl [2, 1, 0] rfl) hP hD hS hf
    · replace hf := it_t c2 hf
      refine lv_aload_n hx hb dX8_run_19 rfl (lv_at hl 0 rfl) ?_
      obtain ⟨r20, hr20, hf⟩ := bn_e hf
      have hPc := hP.sub (ws' := (wM cs a M)) [0, 1, 2, 3, 4, 5, 6, 7, 8, 9, 10, 11] rfl
      refine vp_callSi (W.runV (As := []) (rest := []) C (c_X8_ordered l dC dI cs a M r20 hr20) (cwV 0 hts gX8_run_X8_ordered rfl rfl rfl (by decide +kernel) ⟨Nat.le_of_ble_eq_true rfl, Nat.le_of_ble_eq_true rfl⟩) ⟨(fun a U g mk q => ⟨q.1, q.2.1, GE.calling q.2.2⟩), va_recv hK hPc (ci := 8) (q0 := 0) rfl rfl, (fun U hU hW => ⟨rfl, by rw [hU]; exact hPc, GE.warm hW G⟩)⟩ rfl rfl hl.1 rfl (lv_room (Nat.le_of_ble_eq_true rfl)) dX8_run_20 ⟨Nat.le_of_ble_eq_true rfl, Nat.le_of_ble_eq_true rfl⟩) (fun qr20 hqr20 => ?_)
      obtain rfl := hqr20.symm
      exact hR _ _ _ _ _ _ dX8_run_23 hf hP hD hS
  · replace hf := it_t c1 hf
    refine lv_aload_n hx hb dX8_run_9 rfl (lv_at hl 0 rfl) ?_
    obtain ⟨r10, hr10, hf⟩ := bn_e hf
    have hPc := hP.sub (ws' := (wM cs a M)) [0, 1, 2, 3, 4, 5, 6, 7, 8, 9, 10, 11] rfl
    have hDc := hD.sub (ws' := (wM cs a M)) [0, 1, 2, 3, 4, 5, 6, 7, 8, 9, 10, 11] (by decide) rfl
    have hFc := va_free (wc := (wM cs a M)) hD hS hA [0, 1, 2, 3, 4, 5, 6, 7, 8, 9, 10, 11] rfl
    refine va_calli (va_runV (As := []) (rest := []) C (c_X8_bad l dC dI cs a s.heap.size M r10 hr10) (cwV 0 hts gX8_run_X8_bad rfl rfl rfl (by decide +kernel) ⟨Nat.le_of_ble_eq_true rfl, Nat.le_of_ble_eq_true rfl⟩) ⟨(fun a U g mk q => ⟨q.1, q.2.1, q.2.2.1, GE.calling q.2.2.2.1, q.2.2.2.2⟩), va_recv hK hPc (ci := 8) (q0 := 0) rfl rfl, (fun U hU hW => ⟨rfl, by rw [hU], by rw [hU]; exact hPc, GE.warm hW G, hDc.weaken (fun _ _ _ _ => trivial)⟩)⟩ rfl rfl hl.1 rfl (lv_room (Nat.le_of_ble_eq_true rfl)) dX8_run_10 ⟨Nat.le_of_ble_eq_true rfl, Nat.le_of_ble_eq_true rfl⟩) hS (fun q _ h => hFc q h) hFc (fun q u t H1 locs ht hvm hw hB hz1 hk1 hS => ?_)
    obtain ⟨rfl, rfl⟩ := hw
    obtain ⟨hP1, hD1⟩ := hB
    rw [ht] at hP1
    obtain ⟨hP, hD⟩ := va_join (wr := []) (w1 := (wM cs a r10.2)) hP hD [0, 1, 2, 3, 4, 5, 6, 7, 8, 9, 10, 11] [] rfl rfl (by decide) (by decide) hk1 hFc hP1 hD1
    generalize H1 = H at hP hS ⊢
    have hP := hP.sub (ws' := (wM cs a r10.2)) [0, 1, 2, 3, 4, 5, 6, 7, 8, 9, 10, 11] rfl
    have hD := hD.sub (ws' := (wM cs a r10.2)) [0, 1, 2, 3, 4, 5, 6, 7, 8, 9, 10, 11] (by decide) rfl
    exact hR _ _ _ _ _ _ dX8_run_13 hf hP hD hS

theorem in_X8_badAs_X8 : ∀ w ∈ wsX80, w ∈ wsX8_badAs := by decide +kernel
def f_X8_badAs (x1 : Int32) (M : Ms) : Option (Int32 × Ms) :=
  gi ((0 : Int32)) 3 <|
  gi ((0 : Int32)) 3 <|
  lett ((M.1, M.2.1, va_up M.2.2 5 (upd (M.2.2 5) ((0 : Int32)).toNatClampNeg ((((M.2.2 5) ((0 : Int32)).toNatClampNeg) + (1 : Int32)))))) fun M_9 =>
  some (x1, M_9)
set_option maxHeartbeats 4000000 in
set_option maxRecDepth 100000 in
theorem c_X8_badAs (l : Launch) (dC : Nat → ClassId) (dI : Nat → Nat → Nat) (cs : Nat → ClassId) (a : Nat → Nat) (sz : Nat) (M : Ms) (x1 : Int32) (res : Int32 × Ms) (hf : f_X8_badAs x1 M = some res) : Met l yX8_badAs wsX8_badAs ({ frames := 0, cells := 0, slots := 0, locals := 0 }) (va_Pc [.ref (a 0), .int (x1)] (fun U => U.heap.size = sz ∧ va_P (dC, dI) vwCl (wM cs a M) U.heap ∧ GE dC dI cs U ∧ va_D (fun _ => True) (wM cs a M))) (va_Qi (fun r (u : Ms) => r = res.1 ∧ u = res.2) (fun u t => va_P (dC, dI) vwCl ((fun u : Ms => (wM cs a u)) u) t.heap ∧ va_D (va_A (wM cs a M) sz) ((fun u : Ms => (wM cs a u)) u)) (va_A (wM cs a M) sz)) 0 0 (va_A (wM cs a M) sz) := by
  refine Met.ofW (cc := cX8_badAs) (maxL := 2) (ret := (some .int)) (by decide) rfl ?_
  intro p e s m args below meth c s₁ Bd hml hv
  obtain ⟨rfl, hsz, hP, G, hD0⟩ := hv
  have hts := atoms_spec (ws := wsX8_badAs) Bd.pre
  have hown : s.vm.findClass RX8 = some m.cls := findClass_of_methodNamed Bd.named
  have hlocks := Bd.notSynchronized
  have hx := Bd.exec
  have hb := Bd.bytes
  have hr := Bd.returns
  have C : CallFix p m c cX8_badAs 2 s _ wsX8_badAs RX8 := ⟨hx, hb, hml, hown, hts⟩
  obtain ⟨hK, hN⟩ := id G
  subst hsz
  have hD := hD0.self (sz := s.heap.size)
  generalize hAe : va_A (wM cs a M) s.heap.size = A at hD ⊢
  have hA : ∀ q : Nat, s.heap.size ≤ q → A q := fun q h => by rw [← hAe]; exact Or.inr h
  have hS : va_S A s.heap s.heap [] := va_S.rf
  have hR : RTi p l e ({ frames := 0, cells := 0, slots := 0, locals := 0 }) s m ([.ref (a 0), .int (x1)] : List Value).toArray below meth c cX8_badAs (MQ below (va_Qi (fun r (u : Ms) => r = res.1 ∧ u = res.2) (fun u t => va_P (dC, dI) vwCl ((fun u : Ms => (wM cs a u)) u) t.heap ∧ va_D A ((fun u : Ms => (wM cs a u)) u)) A) ([.ref (a 0), .int (x1)] : List Value).toArray s 0 0 A) (dC, dI) A (fun u : Ms => (wM cs a u)) res := fun H locs pc ls r u dd h hP hD hS => W.iret hx hb hr (fun t ht hW => ⟨⟨r, u, rfl, by cases h; exact ⟨rfl, rfl⟩, by rw [ht]; exact hP, hD⟩, hS.F ht⟩) hS.2.2 dd
  have hl := lv_entry ([.ref (a 0), .int (x1)]) (n := 2) (Nat.le_of_ble_eq_true rfl)
  rw [lg_entry_eq]
  generalize (lg_sl ([.ref (a 0), .int (x1)]) ++ List.replicate (2 - (lg_sl ([.ref (a 0), .int (x1)])).length) Slot.unset).toArray = ls at hl ⊢
  have hl : lv_has ls 2 [(0, .ref (a 0)), (1, .int (x1))] := hl
  unfold f_X8_badAs at hf
  refine lv_aload_n hx hb dX8_badAs_0 rfl (lv_at hl 0 rfl) ?_
  refine va_get (D := (dC, dI)) (ci := 8) (v := .ref (a 6)) (C := RX8) (T := TX8) (N := 20) hx hb hts in_X8_badAs_X8 hown hK hP 0 rfl rfl 5 (by decide) (hts (.fieldLink RX8 26 "BackLoansModel" "refused" "[I") (by decide +kernel)) (fun _ h9 => h9) rfl dX8_badAs_1 ?_
  refine lv_iconst (v := 0) hx hb dX8_badAs_4 (by decide) ?_
  refine lv_dup2_11 hx hb dX8_badAs_5 rfl rfl ?_
  obtain ⟨hi1, hf⟩ := gi_e hf
  refine va_iald hx hb hK hP 6 0 rfl rfl hi1 dX8_badAs_6 ?_
  refine lv_iconst (v := 1) hx hb dX8_badAs_7 (by decide) ?_
  refine lv_iadd hx hb dX8_badAs_8 ?_
  obtain ⟨hi2, hf⟩ := gi_e hf
  refine va_iast hx hb hK hP hD hS 6 0 rfl rfl hi2 dX8_badAs_9 (fun H locs hP hD hS => ?_)
  obtain ⟨M_9, hP, hD, hf⟩ := st_nm (ws := fun M_9 : Ms => (wM cs a M_9)) ((M.1, M.2.1, va_up M.2.2 5 (upd (M.2.2 5) ((0 : Int32)).toNatClampNeg ((((M.2.2 5) ((0 : Int32)).toNatClampNeg) + (1 : Int32)))))) hP hD hf
  refine lv_iload_n hx hb dX8_badAs_10 rfl (lv_at hl 1 rfl) ?_
  exact hR _ _ _ _ _ _ dX8_badAs_11 hf hP hD hS

theorem in_X8_leastBy_X8 : ∀ w ∈ wsX80, w ∈ wsX8_leastBy := by decide +kernel
def f_X8_leastBy_3 (x1 : Int32) (x2 : Int32) (x3 : Int32) (x4 : Int32) (M : Ms) (K3 : Int32 → Ms → Option (Int32 × Ms)) (K23 : Ms → Option (Int32 × Ms)) : Option (Int32 × Ms) :=
  if x2 ≤ x4 then (
    K23 M
  ) else (
    gi (x4) 6 <|
    lett ((M.1, M.2.1, va_up M.2.2 8 (upd (M.2.2 8) (x4).toNatClampNeg ((0 : Int32))))) fun M_16 =>
    lett (x4 + 1) fun x4_17 =>
    K3 x4_17 M_16
  )
set_option maxHeartbeats 4000000 in
set_option maxRecDepth 100000 in
theorem b_X8_leastBy_3 {p : Program} {l : Launch} {e : Env} {s : State} {m : MethodId} {args : Array Value} {below : List Frame} {meth : Method} {c : Code} {Q : State → Prop} {dC : Nat → ClassId} {dI : Nat → Nat → Nat} {cs : Nat → ClassId} {A : Nat → Prop} {a : Nat → Nat} {res : Int32 × Ms} (C : CallFix p m c cX8_leastBy 7 s args wsX8_leastBy RX8) (G : GE dC dI cs s) (hA : ∀ q : Nat, s.heap.size ≤ q → A q) (hR : RTi p l e ({ frames := 1, cells := 0, slots := 0, locals := 21 }) s m args below meth c cX8_leastBy Q (dC, dI) A (fun u : Ms => (wM cs a u)) res) (x1 : Int32) (x2 : Int32) (x3 : Int32) (x4 : Int32) (M : Ms) {K3 : Int32 → Ms → Option (Int32 × Ms)} {K23 : Ms → Option (Int32 × Ms)} (hK3 : ∀ (x4 : Int32) (M : Ms) (H : Heap) (locs : List Loc) (ls : Array Slot), lv_has ls 7 [(0, .ref (a 0)), (1, .int (x1)), (2, .int (x2)), (3, .int (x3)), (4, .int (x4))] → va_P (dC, dI) vwCl (wM cs a M) H → va_D A (wM cs a M) → va_S A s.heap H locs → K3 x4 M = some res → W p l e ({ frames := 1, cells := 0, slots := 0, locals := 21 }) s m args below meth c H locs 0 0 Q (F0 m 3 ls [])) (hK23 : ∀ (M : Ms) (H : Heap) (locs : List Loc) (ls : Array Slot), lv_has ls 7 [(0, .ref (a 0)), (1, .int (x1)), (2, .int (x2)), (3, .int (x3))] → va_P (dC, dI) vwCl (wM cs a M) H → va_D A (wM cs a M) → va_S A s.heap H locs → K23 M = some res → W p l e ({ frames := 1, cells := 0, slots := 0, locals := 21 }) s m args below meth c H locs 0 0 Q (F0 m 23 ls [])) (H : Heap) (locs : List Loc) (ls : Array Slot) (hl : lv_has ls 7 [(0, .ref (a 0)), (1, .int (x1)), (2, .int (x2)), (3, .int (x3)), (4, .int (x4))]) (hP : va_P (dC, dI) vwCl (wM cs a M) H) (hD : va_D A (wM cs a M)) (hS : va_S A s.heap H locs) (hf : f_X8_leastBy_3 x1 x2 x3 x4 M K3 K23 = some res) : W p l e ({ frames := 1, cells := 0, slots := 0, locals := 21 }) s m args below meth c H locs 0 0 Q (F0 m 3 ls []) := by
  obtain ⟨hx, hb, hml, hown, hts⟩ := id C
  obtain ⟨hK, hN⟩ := id G
  unfold f_X8_leastBy_3 at hf
  refine lv_iload hx hb dX8_leastBy_3 (lv_at hl 4 rfl) ?_
  refine lv_iload_n hx hb dX8_leastBy_5 rfl (lv_at hl 2 rfl) ?_
  refine lv_icmp_ge (tgt := 23) hx hb dX8_leastBy_6 (by decide) (fun c1 => ?_) (fun c1 => ?_)
  · replace hf := it_t c1 hf
    exact hK23 M _ _ _ (lv_sub hl [0, 1, 2, 3] rfl) hP hD hS hf
  · replace hf := it_f c1 hf
    refine lv_aload_n hx hb dX8_leastBy_9 rfl (lv_at hl 0 rfl) ?_
    refine va_get (D := (dC, dI)) (ci := 8) (v := .ref (a 9)) (C := RX8) (T := TX8) (N := 20) hx hb hts in_X8_leastBy_X8 hown hK hP 0 rfl rfl 17 (by decide) (hts (.fieldLink RX8 39 "BackLoansModel" "gets" "[I") (by decide +kernel)) (fun _ h9 => h9) rfl dX8_leastBy_10 ?_
    refine lv_iload hx hb dX8_leastBy_13 (lv_at hl 4 rfl) ?_
    refine lv_iconst (v := 0) hx hb dX8_leastBy_15 (by decide) ?_
    obtain ⟨hi2, hf⟩ := gi_e hf
    refine va_iast hx hb hK hP hD hS 9 0 rfl rfl hi2 dX8_leastBy_16 (fun H locs hP hD hS => ?_)
    obtain ⟨M_16, hP, hD, hf⟩ := st_nm (ws := fun M_16 : Ms => (wM cs a M_16)) ((M.1, M.2.1, va_up M.2.2 8 (upd (M.2.2 8) (x4).toNatClampNeg ((0 : Int32))))) hP hD hf
    obtain ⟨x4_17, ex4_17⟩ : ∃ y : Int32, y = (x4 + 1) := ⟨_, rfl⟩
    replace hf := lett_s ex4_17 hf
    refine lv_iinc (v := x4_17) (lv' := [(4, .int (x4_17)), (0, .ref (a 0)), (1, .int (x1)), (2, .int (x2)), (3, .int (x3))]) hx hb dX8_leastBy_17 hl (k := 4) rfl (by rw [ex4_17]; rfl) (by decide) rfl (fun ls hl => ?_)
    refine lv_goto (tgt := 3) hx hb dX8_leastBy_20 (by decide) ?_
    exact hK3 x4_17 M_16 _ _ _ (lv_sub hl [1, 2, 3, 4, 0] rfl) hP hD hS hf
def l_X8_leastBy_3 (x1 : Int32) (x2 : Int32) (x3 : Int32) (K23 : Ms → Option (Int32 × Ms)) (n : Nat) (x4 : Int32) (M : Ms) : Option (Int32 × Ms) := itr (fun (k : Int32 × Ms → Option (Int32 × Ms)) (z : Int32 × Ms) => f_X8_leastBy_3 x1 x2 x3 z.1 z.2 (fun x4 M => k (x4, M)) K23) n (x4, M)
set_option maxHeartbeats 4000000 in
set_option maxRecDepth 100000 in
theorem w_X8_leastBy_3 {p : Program} {l : Launch} {e : Env} {s : State} {m : MethodId} {args : Array Value} {below : List Frame} {meth : Method} {c : Code} {Q : State → Prop} {dC : Nat → ClassId} {dI : Nat → Nat → Nat} {cs : Nat → ClassId} {A : Nat → Prop} {a : Nat → Nat} {res : Int32 × Ms} (C : CallFix p m c cX8_leastBy 7 s args wsX8_leastBy RX8) (G : GE dC dI cs s) (hA : ∀ q : Nat, s.heap.size ≤ q → A q) (hR : RTi p l e ({ frames := 1, cells := 0, slots := 0, locals := 21 }) s m args below meth c cX8_leastBy Q (dC, dI) A (fun u : Ms => (wM cs a u)) res) (x1 : Int32) (x2 : Int32) (x3 : Int32) {K23 : Ms → Option (Int32 × Ms)} (hK23 : ∀ (M : Ms) (H : Heap) (locs : List Loc) (ls : Array Slot), lv_has ls 7 [(0, .ref (a 0)), (1, .int (x1)), (2, .int (x2)), (3, .int (x3))] → va_P (dC, dI) vwCl (wM cs a M) H → va_D A (wM cs a M) → va_S A s.heap H locs → K23 M = some res → W p l e ({ frames := 1, cells := 0, slots := 0, locals := 21 }) s m args below meth c H locs 0 0 Q (F0 m 23 ls [])) : ∀ (n : Nat) (x4 : Int32) (M : Ms) (H : Heap) (locs : List Loc) (ls : Array Slot), lv_has ls 7 [(0, .ref (a 0)), (1, .int (x1)), (2, .int (x2)), (3, .int (x3)), (4, .int (x4))] → va_P (dC, dI) vwCl (wM cs a M) H → va_D A (wM cs a M) → va_S A s.heap H locs → l_X8_leastBy_3 x1 x2 x3 K23 n x4 M = some res → W p l e ({ frames := 1, cells := 0, slots := 0, locals := 21 }) s m args below meth c H locs 0 0 Q (F0 m 3 ls []) := by
  intro n
  induction n with
  | zero => intro x4 M H locs ls hl hP hD hS hf; exact absurd hf (by simp [l_X8_leastBy_3, itr])
  | succ n ih =>
    intro x4 M H locs ls hl hP hD hS hf
    replace hf : f_X8_leastBy_3 x1 x2 x3 x4 M (fun x4 M => l_X8_leastBy_3 x1 x2 x3 K23 n x4 M) K23 = some res := by rw [← hf]; unfold l_X8_leastBy_3; rw [itr_s]
    exact b_X8_leastBy_3 C G hA hR x1 x2 x3 x4 M (K3 := fun x4 M => l_X8_leastBy_3 x1 x2 x3 K23 n x4 M) (fun x4 M H locs ls hl hP hD hS hf => ih x4 M H locs ls hl hP hD hS hf) hK23 H locs ls hl hP hD hS hf
def f_X8_leastBy_31 (x2 : Int32) (x4 : Int32) (x5 : Int32) (M : Ms) (K31 : Int32 → Int32 → Ms → Option (Int32 × Ms)) (K85 : Ms → Option (Int32 × Ms)) : Option (Int32 × Ms) :=
  if x5 < 0 then (
    K85 M
  ) else (
    gz (x2) <|
    gi (x5) 8 <|
    lett ((M.1, M.2.1, va_up M.2.2 10 (upd (M.2.2 10) (x5).toNatClampNeg ((x4 - x4 / x2 * x2))))) fun M_46 =>
    gz (x2) <|
    lett (x4 / x2) fun x4_51 =>
    gi (x5) 8 <|
    gi (((M_46.2.2 10) (x5).toNatClampNeg)) 6 <|
    gi (x5) 8 <|
    bn (f_X8_given ((M_46.2.2 9) (x5).toNatClampNeg) M_46) fun r74 =>
    gi (((M_46.2.2 10) (x5).toNatClampNeg)) 6 <|
    lett ((M_46.1, M_46.2.1, va_up M_46.2.2 8 (upd (M_46.2.2 8) (((M_46.2.2 10) (x5).toNatClampNeg)).toNatClampNeg ((((M_46.2.2 8) (((M_46.2.2 10) (x5).toNatClampNeg)).toNatClampNeg) + r74))))) fun M_78 =>
    lett (x5 + (-1)) fun x5_79 =>
    K31 x4_51 x5_79 M_78
  )
set_option maxHeartbeats 4000000 in
set_option maxRecDepth 100000 in
theorem b_X8_leastBy_31 {p : Program} {l : Launch} {e : Env} {s : State} {m : MethodId} {args : Array Value} {below : List Frame} {meth : Method} {c : Code} {Q : State → Prop} {dC : Nat → ClassId} {dI : Nat → Nat → Nat} {cs : Nat → ClassId} {A : Nat → Prop} {a : Nat → Nat} {res : Int32 × Ms} (C : CallFix p m c cX8_leastBy 7 s args wsX8_leastBy RX8) (G : GE dC dI cs s) (hA : ∀ q : Nat, s.heap.size ≤ q → A q) (hR : RTi p l e ({ frames := 1, cells := 0, slots := 0, locals := 21 }) s m args below meth c cX8_leastBy Q (dC, dI) A (fun u : Ms => (wM cs a u)) res) (x2 : Int32) (x4 : Int32) (x5 : Int32) (M : Ms) {K31 : Int32 → Int32 → Ms → Option (Int32 × Ms)} {K85 : Ms → Option (Int32 × Ms)} (hK31 : ∀ (x4 : Int32) (x5 : Int32) (M : Ms) (H : Heap) (locs : List Loc) (ls : Array Slot), lv_has ls 7 [(0, .ref (a 0)), (2, .int (x2)), (4, .int (x4)), (5, .int (x5))] → va_P (dC, dI) vwCl (wM cs a M) H → va_D A (wM cs a M) → va_S A s.heap H locs → K31 x4 x5 M = some res → W p l e ({ frames := 1, cells := 0, slots := 0, locals := 21 }) s m args below meth c H locs 0 0 Q (F0 m 31 ls [])) (hK85 : ∀ (M : Ms) (H : Heap) (locs : List Loc) (ls : Array Slot), lv_has ls 7 [(0, .ref (a 0)), (2, .int (x2))] → va_P (dC, dI) vwCl (wM cs a M) H → va_D A (wM cs a M) → va_S A s.heap H locs → K85 M = some res → W p l e ({ frames := 1, cells := 0, slots := 0, locals := 21 }) s m args below meth c H locs 0 0 Q (F0 m 85 ls [])) (H : Heap) (locs : List Loc) (ls : Array Slot) (hl : lv_has ls 7 [(0, .ref (a 0)), (2, .int (x2)), (4, .int (x4)), (5, .int (x5))]) (hP : va_P (dC, dI) vwCl (wM cs a M) H) (hD : va_D A (wM cs a M)) (hS : va_S A s.heap H locs) (hf : f_X8_leastBy_31 x2 x4 x5 M K31 K85 = some res) : W p l e ({ frames := 1, cells := 0, slots := 0, locals := 21 }) s m args below meth c H locs 0 0 Q (F0 m 31 ls []) := by
  obtain ⟨hx, hb, hml, hown, hts⟩ := id C
  obtain ⟨hK, hN⟩ := id G
  unfold f_X8_leastBy_31 at hf
  refine lv_iload hx hb dX8_leastBy_31 (lv_at hl 3 rfl) ?_
  refine lv_if_lt (tgt := 85) hx hb dX8_leastBy_33 (by decide) (fun c1 => ?_) (fun c1 => ?_)
  · replace hf := it_t c1 hf
    exact hK85 M _ _ _ (lv_sub hl [0, 1] rfl) hP hD hS hf
  · replace hf := it_f c1 hf
    refine lv_aload_n hx hb dX8_leastBy_36 rfl (lv_at hl 0 rfl) ?_
    refine va_get (D := (dC, dI)) (ci := 8) (v := .ref (a 11)) (C := RX8) (T := TX8) (N := 20) hx hb hts in_X8_leastBy_X8 hown hK hP 0 rfl rfl 19 (by decide) (hts (.fieldLink RX8 45 "BackLoansModel" "chosen" "[I") (by decide +kernel)) (fun _ h9 => h9) rfl dX8_leastBy_37 ?_
    refine lv_iload hx hb dX8_leastBy_40 (lv_at hl 3 rfl) ?_
    refine lv_iload hx hb dX8_leastBy_42 (lv_at hl 2 rfl) ?_
    refine lv_iload_n hx hb dX8_leastBy_44 rfl (lv_at hl 1 rfl) ?_
    obtain ⟨hz2, hf⟩ := gz_e hf
    refine lv_irem hx hb dX8_leastBy_45 hz2 ?_
    obtain ⟨hi3, hf⟩ := gi_e hf
    refine va_iast hx hb hK hP hD hS 11 0 rfl rfl hi3 dX8_leastBy_46 (fun H locs hP hD hS => ?_)
    obtain ⟨M_46, hP, hD, hf⟩ := st_nm (ws := fun M_46 : Ms => (wM cs a M_46)) ((M.1, M.2.1, va_up M.2.2 10 (upd (M.2.2 10) (x5).toNatClampNeg ((x4 - x4 / x2 * x2))))) hP hD hf
    refine lv_iload hx hb dX8_leastBy_47 (lv_at hl 2 rfl) ?_
    refine lv_iload_n hx hb dX8_leastBy_49 rfl (lv_at hl 1 rfl) ?_
    obtain ⟨hz4, hf⟩ := gz_e hf
    refine lv_idiv hx hb dX8_leastBy_50 hz4 ?_
    refine lv_topi (fun x4_51 ex4_51 => ?_)
    replace hf := lett_s ex4_51 hf
    refine lv_istore (lv' := [(4, .int (x4_51)), (0, .ref (a 0)), (2, .int (x2)), (5, .int (x5))]) hx hb dX8_leastBy_51 hl (by decide) rfl (fun ls hl => ?_)
    refine lv_aload_n hx hb dX8_leastBy_53 rfl (lv_at hl 1 rfl) ?_
    refine va_get (D := (dC, dI)) (ci := 8) (v := .ref (a 9)) (C := RX8) (T := TX8) (N := 20) hx hb hts in_X8_leastBy_X8 hown hK hP 0 rfl rfl 17 (by decide) (hts (.fieldLink RX8 39 "BackLoansModel" "gets" "[I") (by decide +kernel)) (fun _ h9 => h9) rfl dX8_leastBy_54 ?_
    refine lv_aload_n hx hb dX8_leastBy_57 rfl (lv_at hl 1 rfl) ?_
    refine va_get (D := (dC, dI)) (ci := 8) (v := .ref (a 11)) (C := RX8) (T := TX8) (N := 20) hx hb hts in_X8_leastBy_X8 hown hK hP 0 rfl rfl 19 (by decide) (hts (.fieldLink RX8 45 "BackLoansModel" "chosen" "[I") (by decide +kernel)) (fun _ h9 => h9) rfl dX8_leastBy_58 ?_
    refine lv_iload hx hb dX8_leastBy_61 (lv_at hl 3 rfl) ?_
    obtain ⟨hi5, hf⟩ := gi_e hf
    refine va_iald hx hb hK hP 11 0 rfl rfl hi5 dX8_leastBy_63 ?_
    refine lv_dup2_11 hx hb dX8_leastBy_64 rfl rfl ?_
    obtain ⟨hi6, hf⟩ := gi_e hf
    refine va_iald hx hb hK hP 9 0 rfl rfl hi6 dX8_leastBy_65 ?_
    refine lv_aload_n hx hb dX8_leastBy_66 rfl (lv_at hl 1 rfl) ?_
    refine lv_aload_n hx hb dX8_leastBy_67 rfl (lv_at hl 1 rfl) ?_
    refine va_get (D := (dC, dI)) (ci := 8) (v := .ref (a 10)) (C := RX8) (T := TX8) (N := 20) hx hb hts in_X8_leastBy_X8 hown hK hP 0 rfl rfl 18 (by decide) (hts (.fieldLink RX8 42 "BackLoansModel" "loanOf" "[I") (by decide +kernel)) (fun _ h9 => h9) rfl dX8_leastBy_68 ?_
    refine lv_iload hx hb dX8_leastBy_71 (lv_at hl 3 rfl) ?_
    obtain ⟨hi7, hf⟩ := gi_e hf
    refine va_iald hx hb hK hP 10 0 rfl rfl hi7 dX8_leastBy_73 ?_
    obtain ⟨r74, hr74, hf⟩ := bn_e hf
    have hPc := hP.sub (ws' := (wM cs a M_46)) [0, 1, 2, 3, 4, 5, 6, 7, 8, 9, 10, 11] rfl
    refine vp_callSi (W.runV (As := [.int (((M_46.2.2 9) (x5).toNatClampNeg))]) (rest := [.int (((M_46.2.2 8) (((M_46.2.2 10) (x5).toNatClampNeg)).toNatClampNeg)), .int (((M_46.2.2 10) (x5).toNatClampNeg)), .ref (a 9)]) C (c_X8_given l dC dI cs a M_46 ((M_46.2.2 9) (x5).toNatClampNeg) r74 hr74) (cwV 1 hts gX8_leastBy_X8_given rfl rfl rfl (by decide +kernel) ⟨Nat.le_of_ble_eq_true rfl, Nat.le_of_ble_eq_true rfl⟩) ⟨(fun a U g mk q => ⟨q.1, q.2.1, GE.calling q.2.2⟩), va_recv hK hPc (ci := 8) (q0 := 0) rfl rfl, (fun U hU hW => ⟨rfl, by rw [hU]; exact hPc, GE.warm hW G⟩)⟩ rfl rfl hl.1 rfl (lv_room (Nat.le_of_ble_eq_true rfl)) dX8_leastBy_74 ⟨Nat.le_of_ble_eq_true rfl, Nat.le_of_ble_eq_true rfl⟩) (fun qr74 hqr74 => ?_)
    obtain rfl := hqr74.symm
    refine lv_iadd hx hb dX8_leastBy_77 ?_
    obtain ⟨hi8, hf⟩ := gi_e hf
    refine va_iast hx hb hK hP hD hS 9 0 rfl rfl hi8 dX8_leastBy_78 (fun H locs hP hD hS => ?_)
    obtain ⟨M_78, hP, hD, hf⟩ := st_nm (ws := fun M_78 : Ms => (wM cs a M_78)) ((M_46.1, M_46.2.1, va_up M_46.2.2 8 (upd (M_46.2.2 8) (((M_46.2.2 10) (x5).toNatClampNeg)).toNatClampNeg ((((M_46.2.2 8) (((M_46.2.2 10) (x5).toNatClampNeg)).toNatClampNeg) + r74))))) hP hD hf
    obtain ⟨x5_79, ex5_79⟩ : ∃ y : Int32, y = (x5 + (-1)) := ⟨_, rfl⟩
    replace hf := lett_s ex5_79 hf
    refine lv_iinc (v := x5_79) (lv' := [(5, .int (x5_79)), (4, .int (x4_51)), (0, .ref (a 0)), (2, .int (x2))]) hx hb dX8_leastBy_79 hl (k := 3) rfl (by rw [ex5_79]; rfl) (by decide) rfl (fun ls hl => ?_)
    refine lv_goto (tgt := 31) hx hb dX8_leastBy_82 (by decide) ?_
    exact hK31 x4_51 x5_79 M_78 _ _ _ (lv_sub hl [2, 3, 1, 0] rfl) hP hD hS hf
def l_X8_leastBy_31 (x2 : Int32) (K85 : Ms → Option (Int32 × Ms)) (n : Nat) (x4 : Int32) (x5 : Int32) (M : Ms) : Option (Int32 × Ms) := itr (fun (k : Int32 × Int32 × Ms → Option (Int32 × Ms)) (z : Int32 × Int32 × Ms) => f_X8_leastBy_31 x2 z.1 z.2.1 z.2.2 (fun x4 x5 M => k (x4, x5, M)) K85) n (x4, x5, M)
set_option maxHeartbeats 4000000 in
set_option maxRecDepth 100000 in
theorem w_X8_leastBy_31 {p : Program} {l : Launch} {e : Env} {s : State} {m : MethodId} {args : Array Value} {below : List Frame} {meth : Method} {c : Code} {Q : State → Prop} {dC : Nat → ClassId} {dI : Nat → Nat → Nat} {cs : Nat → ClassId} {A : Nat → Prop} {a : Nat → Nat} {res : Int32 × Ms} (C : CallFix p m c cX8_leastBy 7 s args wsX8_leastBy RX8) (G : GE dC dI cs s) (hA : ∀ q : Nat, s.heap.size ≤ q → A q) (hR : RTi p l e ({ frames := 1, cells := 0, slots := 0, locals := 21 }) s m args below meth c cX8_leastBy Q (dC, dI) A (fun u : Ms => (wM cs a u)) res) (x2 : Int32) {K85 : Ms → Option (Int32 × Ms)} (hK85 : ∀ (M : Ms) (H : Heap) (locs : List Loc) (ls : Array Slot), lv_has ls 7 [(0, .ref (a 0)), (2, .int (x2))] → va_P (dC, dI) vwCl (wM cs a M) H → va_D A (wM cs a M) → va_S A s.heap H locs → K85 M = some res → W p l e ({ frames := 1, cells := 0, slots := 0, locals := 21 }) s m args below meth c H locs 0 0 Q (F0 m 85 ls [])) : ∀ (n : Nat) (x4 : Int32) (x5 : Int32) (M : Ms) (H : Heap) (locs : List Loc) (ls : Array Slot), lv_has ls 7 [(0, .ref (a 0)), (2, .int (x2)), (4, .int (x4)), (5, .int (x5))] → va_P (dC, dI) vwCl (wM cs a M) H → va_D A (wM cs a M) → va_S A s.heap H locs → l_X8_leastBy_31 x2 K85 n x4 x5 M = some res → W p l e ({ frames := 1, cells := 0, slots := 0, locals := 21 }) s m args below meth c H locs 0 0 Q (F0 m 31 ls []) := by
  intro n
  induction n with
  | zero => intro x4 x5 M H locs ls hl hP hD hS hf; exact absurd hf (by simp [l_X8_leastBy_31, itr])
  | succ n ih =>
    intro x4 x5 M H locs ls hl hP hD hS hf
    replace hf : f_X8_leastBy_31 x2 x4 x5 M (fun x4 x5 M => l_X8_leastBy_31 x2 K85 n x4 x5 M) K85 = some res := by rw [← hf]; unfold l_X8_leastBy_31; rw [itr_s]
    exact b_X8_leastBy_31 C G hA hR x2 x4 x5 M (K31 := fun x4 x5 M => l_X8_leastBy_31 x2 K85 n x4 x5 M) (fun x4 x5 M H locs ls hl hP hD hS hf => ih x4 x5 M H locs ls hl hP hD hS hf) hK85 H locs ls hl hP hD hS hf
def f_X8_leastBy_96 (x2 : Int32) (x5 : Int32) (x6 : Int32) (M : Ms) (K96 : Int32 → Int32 → Option (Int32 × Ms)) : Option (Int32 × Ms) :=
  if x2 ≤ x6 then (
    some (x5, M)
  ) else (
    gi (x6) 6 <|
    bn (f_X8_least x5 ((M.2.2 8) (x6).toNatClampNeg)) fun r111 =>
    lett (x6 + 1) fun x6_116 =>
    K96 r111 x6_116
  )
set_option maxHeartbeats 4000000 in
set_option maxRecDepth 100000 in
theorem b_X8_leastBy_96 {p : Program} {l : Launch} {e : Env} {s : State} {m : MethodId} {args : Array Value} {below : List Frame} {meth : Method} {c : Code} {Q : State → Prop} {dC : Nat → ClassId} {dI : Nat → Nat → Nat} {cs : Nat → ClassId} {A : Nat → Prop} {a : Nat → Nat} {res : Int32 × Ms} (C : CallFix p m c cX8_leastBy 7 s args wsX8_leastBy RX8) (G : GE dC dI cs s) (hA : ∀ q : Nat, s.heap.size ≤ q → A q) (hR : RTi p l e ({ frames := 1, cells := 0, slots := 0, locals := 21 }) s m args below meth c cX8_leastBy Q (dC, dI) A (fun u : Ms => (wM cs a u)) res) (x2 : Int32) (x5 : Int32) (x6 : Int32) (M : Ms) {K96 : Int32 → Int32 → Option (Int32 × Ms)} (hK96 : ∀ (x5 : Int32) (x6 : Int32) (H : Heap) (locs : List Loc) (ls : Array Slot), lv_has ls 7 [(0, .ref (a 0)), (2, .int (x2)), (5, .int (x5)), (6, .int (x6))] → va_P (dC, dI) vwCl (wM cs a M) H → va_D A (wM cs a M) → va_S A s.heap H locs → K96 x5 x6 = some res → W p l e ({ frames := 1, cells := 0, slots := 0, locals := 21 }) s m args below meth c H locs 0 0 Q (F0 m 96 ls [])) (H : Heap) (locs : List Loc) (ls : Array Slot) (hl : lv_has ls 7 [(0, .ref (a 0)), (2, .int (x2)), (5, .int (x5)), (6, .int (x6))]) (hP : va_P (dC, dI) vwCl (wM cs a M) H) (hD : va_D A (wM cs a M)) (hS : va_S A s.heap H locs) (hf : f_X8_leastBy_96 x2 x5 x6 M K96 = some res) : W p l e ({ frames := 1, cells := 0, slots := 0, locals := 21 }) s m args below meth c H locs 0 0 Q (F0 m 96 ls []) := by
  obtain ⟨hx, hb, hml, hown, hts⟩ := id C
  obtain ⟨hK, hN⟩ := id G
  unfold f_X8_leastBy_96 at hf
  refine lv_iload hx hb dX8_leastBy_96 (lv_at hl 3 rfl) ?_
  refine lv_iload_n hx hb dX8_leastBy_98 rfl (lv_at hl 1 rfl) ?_
  refine lv_icmp_ge (tgt := 122) hx hb dX8_leastBy_99 (by decide) (fun c1 => ?_) (fun c1 => ?_)
  · replace hf := it_t c1 hf
    refine lv_iload hx hb dX8_leastBy_122 (lv_at hl 2 rfl) ?_
    exact hR _ _ _ _ _ _ dX8_leastBy_124 hf hP hD hS
  · replace hf := it_f c1 hf
    refine lv_iload hx hb dX8_leastBy_102 (lv_at hl 2 rfl) ?_
    refine lv_aload_n hx hb dX8_leastBy_104 rfl (lv_at hl 0 rfl) ?_
    refine va_get (D := (dC, dI)) (ci := 8) (v := .ref (a 9)) (C := RX8) (T := TX8) (N := 20) hx hb hts in_X8_leastBy_X8 hown hK hP 0 rfl rfl 17 (by decide) (hts (.fieldLink RX8 39 "BackLoansModel" "gets" "[I") (by decide +kernel)) (fun _ h9 => h9) rfl dX8_leastBy_105 ?_
    refine lv_iload hx hb dX8_leastBy_108 (lv_at hl 3 rfl) ?_
    obtain ⟨hi2, hf⟩ := gi_e hf
    refine va_iald hx hb hK hP 9 0 rfl rfl hi2 dX8_leastBy_110 ?_
    obtain ⟨r111, hr111, hf⟩ := bn_e hf
    have hPc := hP.sub (ws' := ([] : va_W)) [] rfl
    refine vp_callSi (W.runS (As := [.int (x5), .int (((M.2.2 8) (x6).toNatClampNeg))]) (rest := []) C (c_X8_least l dC dI cs x5 ((M.2.2 8) (x6).toNatClampNeg) r111 hr111) (va_cwS 2 hts gX8_leastBy_X8_least rfl rfl rfl (by decide +kernel) ⟨Nat.le_of_ble_eq_true rfl, Nat.le_of_ble_eq_true rfl⟩) ⟨(fun a U g mk q => ⟨q.1, q.2.1, GE.calling q.2.2⟩), (fun U hU hW => ⟨rfl, by rw [hU]; exact hPc, GE.warm hW G⟩)⟩ rfl rfl hl.1 rfl (lv_room (Nat.le_of_ble_eq_true rfl)) dX8_leastBy_111 ⟨Nat.le_of_ble_eq_true rfl, Nat.le_of_ble_eq_true rfl⟩) (fun qr111 hqr111 => ?_)
    obtain rfl := hqr111.symm
    refine lv_istore (lv' := [(5, .int (r111)), (0, .ref (a 0)), (2, .int (x2)), (6, .int (x6))]) hx hb dX8_leastBy_114 hl (by decide) rfl (fun ls hl => ?_)
    obtain ⟨x6_116, ex6_116⟩ : ∃ y : Int32, y = (x6 + 1) := ⟨_, rfl⟩
    replace hf := lett_s ex6_116 hf
    refine lv_iinc (v := x6_116) (lv' := [(6, .int (x6_116)), (5, .int (r111)), (0, .ref (a 0)), (2, .int (x2))]) hx hb dX8_leastBy_116 hl (k := 3) rfl (by rw [ex6_116]; rfl) (by decide) rfl (fun ls hl => ?_)
    refine lv_goto (tgt := 96) hx hb dX8_leastBy_119 (by decide) ?_
    exact hK96 r111 x6_116 _ _ _ (lv_sub hl [2, 3, 1, 0] rfl) hP hD hS hf
def l_X8_leastBy_96 (x2 : Int32) (M : Ms)  (n : Nat) (x5 : Int32) (x6 : Int32) : Option (Int32 × Ms) := itr (fun (k : Int32 × Int32 → Option (Int32 × Ms)) (z : Int32 × Int32) => f_X8_leastBy_96 x2 z.1 z.2 M (fun x5 x6 => k (x5, x6))) n (x5, x6)
set_option maxHeartbeats 4000000 in
set_option maxRecDepth 100000 in
theorem w_X8_leastBy_96 {p : Program} {l : Launch} {e : Env} {s : State} {m : MethodId} {args : Array Value} {below : List Frame} {meth : Method} {c : Code} {Q : State → Prop} {dC : Nat → ClassId} {dI : Nat → Nat → Nat} {cs : Nat → ClassId} {A : Nat → Prop} {a : Nat → Nat} {res : Int32 × Ms} (C : CallFix p m c cX8_leastBy 7 s args wsX8_leastBy RX8) (G : GE dC dI cs s) (hA : ∀ q : Nat, s.heap.size ≤ q → A q) (hR : RTi p l e ({ frames := 1, cells := 0, slots := 0, locals := 21 }) s m args below meth c cX8_leastBy Q (dC, dI) A (fun u : Ms => (wM cs a u)) res) (x2 : Int32) (M : Ms)   : ∀ (n : Nat) (x5 : Int32) (x6 : Int32) (H : Heap) (locs : List Loc) (ls : Array Slot), lv_has ls 7 [(0, .ref (a 0)), (2, .int (x2)), (5, .int (x5)), (6, .int (x6))] → va_P (dC, dI) vwCl (wM cs a M) H → va_D A (wM cs a M) → va_S A s.heap H locs → l_X8_leastBy_96 x2 M n x5 x6 = some res → W p l e ({ frames := 1, cells := 0, slots := 0, locals := 21 }) s m args below meth c H locs 0 0 Q (F0 m 96 ls []) := by
  intro n
  induction n with
  | zero => intro x5 x6 H locs ls hl hP hD hS hf; exact absurd hf (by simp [l_X8_leastBy_96, itr])
  | succ n ih =>
    intro x5 x6 H locs ls hl hP hD hS hf
    replace hf : f_X8_leastBy_96 x2 x5 x6 M (fun x5 x6 => l_X8_leastBy_96 x2 M n x5 x6) = some res := by rw [← hf]; unfold l_X8_leastBy_96; rw [itr_s]
    exact b_X8_leastBy_96 C G hA hR x2 x5 x6 M (K96 := fun x5 x6 => l_X8_leastBy_96 x2 M n x5 x6) (fun x5 x6 H locs ls hl hP hD hS hf => ih x5 x6 H locs ls hl hP hD hS hf) H locs ls hl hP hD hS hf
def f_X8_leastBy_85 (x2 : Int32) (M : Ms)  : Option (Int32 × Ms) :=
  gi ((0 : Int32)) 6 <|
  lett ((M.2.2 8) ((0 : Int32)).toNatClampNeg) fun x5_91 =>
  lett (1 : Int32) fun x6_94 =>
  l_X8_leastBy_96 x2 M FU x5_91 x6_94
set_option maxHeartbeats 4000000 in
set_option maxRecDepth 100000 in
theorem b_X8_leastBy_85 {p : Program} {l : Launch} {e : Env} {s : State} {m : MethodId} {args : Array Value} {below : List Frame} {meth : Method} {c : Code} {Q : State → Prop} {dC : Nat → ClassId} {dI : Nat → Nat → Nat} {cs : Nat → ClassId} {A : Nat → Prop} {a : Nat → Nat} {res : Int32 × Ms} (C : CallFix p m c cX8_leastBy 7 s args wsX8_leastBy RX8) (G : GE dC dI cs s) (hA : ∀ q : Nat, s.heap.size ≤ q → A q) (hR : RTi p l e ({ frames := 1, cells := 0, slots := 0, locals := 21 }) s m args below meth c cX8_leastBy Q (dC, dI) A (fun u : Ms => (wM cs a u)) res) (x2 : Int32) (M : Ms)   (H : Heap) (locs : List Loc) (ls : Array Slot) (hl : lv_has ls 7 [(0, .ref (a 0)), (2, .int (x2))]) (hP : va_P (dC, dI) vwCl (wM cs a M) H) (hD : va_D A (wM cs a M)) (hS : va_S A s.heap H locs) (hf : f_X8_leastBy_85 x2 M = some res) : W p l e ({ frames := 1, cells := 0, slots := 0, locals := 21 }) s m args below meth c H locs 0 0 Q (F0 m 85 ls []) := by
  obtain ⟨hx, hb, hml, hown, hts⟩ := id C
  obtain ⟨hK, hN⟩ := id G
  unfold f_X8_leastBy_85 at hf
  refine lv_aload_n hx hb dX8_leastBy_85 rfl (lv_at hl 0 rfl) ?_
  refine va_get (D := (dC, dI)) (ci := 8) (v := .ref (a 9)) (C := RX8) (T := TX8) (N := 20) hx hb hts in_X8_leastBy_X8 hown hK hP 0 rfl rfl 17 (by decide) (hts (.fieldLink RX8 39 "BackLoansModel" "gets" "[I") (by decide +kernel)) (fun _ h9 => h9) rfl dX8_leastBy_86 ?_
  refine lv_iconst (v := 0) hx hb dX8_leastBy_89 (by decide) ?_
  obtain ⟨hi1, hf⟩ := gi_e hf
  refine va_iald hx hb hK hP 9 0 rfl rfl hi1 dX8_leastBy_90 ?_
  refine lv_topi (fun x5_91 ex5_91 => ?_)
  replace hf := lett_s ex5_91 hf
  refine lv_istore (lv' := [(5, .int (x5_91)), (0, .ref (a 0)), (2, .int (x2))]) hx hb dX8_leastBy_91 hl (by decide) rfl (fun ls hl => ?_)
  refine lv_iconst (v := 1) hx hb dX8_leastBy_93 (by decide) ?_
  refine lv_topi (fun x6_94 ex6_94 => ?_)
  replace hf := lett_s ex6_94 hf
  refine lv_istore (lv' := [(6, .int (x6_94)), (5, .int (x5_91)), (0, .ref (a 0)), (2, .int (x2))]) hx hb dX8_leastBy_94 hl (by decide) rfl (fun ls hl => ?_)
  exact w_X8_leastBy_96 C G hA hR x2 M FU x5_91 x6_94 _ _ _ (lv_sub hl [2, 3, 1, 0] rfl) hP hD hS hf
def f_X8_leastBy_23 (x1 : Int32) (x2 : Int32) (x3 : Int32) (M : Ms)  : Option (Int32 × Ms) :=
  lett (x3 - (1 : Int32)) fun x5_29 =>
  l_X8_leastBy_31 x2 (fun Mz => f_X8_leastBy_85 x2 Mz) FU x1 x5_29 M
set_option maxHeartbeats 4000000 in
set_option maxRecDepth 100000 in
theorem b_X8_leastBy_23 {p : Program} {l : Launch} {e : Env} {s : State} {m : MethodId} {args : Array Value} {below : List Frame} {meth : Method} {c : Code} {Q : State → Prop} {dC : Nat → ClassId} {dI : Nat → Nat → Nat} {cs : Nat → ClassId} {A : Nat → Prop} {a : Nat → Nat} {res : Int32 × Ms} (C : CallFix p m c cX8_leastBy 7 s args wsX8_leastBy RX8) (G : GE dC dI cs s) (hA : ∀ q : Nat, s.heap.size ≤ q → A q) (hR : RTi p l e ({ frames := 1, cells := 0, slots := 0, locals := 21 }) s m args below meth c cX8_leastBy Q (dC, dI) A (fun u : Ms => (wM cs a u)) res) (x1 : Int32) (x2 : Int32) (x3 : Int32) (M : Ms)   (H : Heap) (locs : List Loc) (ls : Array Slot) (hl : lv_has ls 7 [(0, .ref (a 0)), (1, .int (x1)), (2, .int (x2)), (3, .int (x3))]) (hP : va_P (dC, dI) vwCl (wM cs a M) H) (hD : va_D A (wM cs a M)) (hS : va_S A s.heap H locs) (hf : f_X8_leastBy_23 x1 x2 x3 M = some res) : W p l e ({ frames := 1, cells := 0, slots := 0, locals := 21 }) s m args below meth c H locs 0 0 Q (F0 m 23 ls []) := by
  obtain ⟨hx, hb, hml, hown, hts⟩ := id C
  obtain ⟨hK, hN⟩ := id G
  unfold f_X8_leastBy_23 at hf
  refine lv_iload_n hx hb dX8_leastBy_23 rfl (lv_at hl 1 rfl) ?_
  refine lv_istore (lv' := [(4, .int (x1)), (0, .ref (a 0)), (1, .int (x1)), (2, .int (x2)), (3, .int (x3))]) hx hb dX8_leastBy_24 hl (by decide) rfl (fun ls hl => ?_)
  refine lv_iload_n hx hb dX8_leastBy_26 rfl (lv_at hl 4 rfl) ?_
  refine lv_iconst (v := 1) hx hb dX8_leastBy_27 (by decide) ?_
  refine lv_isub hx hb dX8_leastBy_28 ?_
  refine lv_topi (fun x5_29 ex5_29 => ?_)
  replace hf := lett_s ex5_29 hf
  refine lv_istore (lv' := [(5, .int (x5_29)), (4, .int (x1)), (0, .ref (a 0)), (1, .int (x1)), (2, .int (x2)), (3, .int (x3))]) hx hb dX8_leastBy_29 hl (by decide) rfl (fun ls hl => ?_)
  exact w_X8_leastBy_31 C G hA hR x2 (fun Mz H locs ls hl hP hD hS hf => b_X8_leastBy_85 C G hA hR x2 Mz _ _ _ hl hP hD hS hf) FU x1 x5_29 M _ _ _ (lv_sub hl [2, 4, 1, 0] rfl) hP hD hS hf
def f_X8_leastBy (x1 : Int32) (x2 : Int32) (x3 : Int32) (M : Ms) : Option (Int32 × Ms) :=
  lett (0 : Int32) fun x4_1 =>
  l_X8_leastBy_3 x1 x2 x3 (fun Mz => f_X8_leastBy_23 x1 x2 x3 Mz) FU x4_1 M
set_option maxHeartbeats 4000000 in
set_option maxRecDepth 100000 in
theorem c_X8_leastBy (l : Launch) (dC : Nat → ClassId) (dI : Nat → Nat → Nat) (cs : Nat → ClassId) (a : Nat → Nat) (sz : Nat) (M : Ms) (x1 : Int32) (x2 : Int32) (x3 : Int32) (res : Int32 × Ms) (hf : f_X8_leastBy x1 x2 x3 M = some res) : Met l yX8_leastBy wsX8_leastBy ({ frames := 1, cells := 0, slots := 0, locals := 21 }) (va_Pc [.ref (a 0), .int (x1), .int (x2), .int (x3)] (fun U => U.heap.size = sz ∧ va_P (dC, dI) vwCl (wM cs a M) U.heap ∧ GE dC dI cs U ∧ va_D (fun _ => True) (wM cs a M))) (va_Qi (fun r (u : Ms) => r = res.1 ∧ u = res.2) (fun u t => va_P (dC, dI) vwCl ((fun u : Ms => (wM cs a u)) u) t.heap ∧ va_D (va_A (wM cs a M) sz) ((fun u : Ms => (wM cs a u)) u)) (va_A (wM cs a M) sz)) 0 0 (va_A (wM cs a M) sz) := by
  refine Met.ofW (cc := cX8_leastBy) (maxL := 7) (ret := (some .int)) (by decide) rfl ?_
  intro p e s m args below meth c s₁ Bd hml hv
  obtain ⟨rfl, hsz, hP, G, hD0⟩ := hv
  have hts := atoms_spec (ws := wsX8_leastBy) Bd.pre
  have hown : s.vm.findClass RX8 = some m.cls := findClass_of_methodNamed Bd.named
  have hlocks := Bd.notSynchronized
  have hx := Bd.exec
  have hb := Bd.bytes
  have hr := Bd.returns
  have C : CallFix p m c cX8_leastBy 7 s _ wsX8_leastBy RX8 := ⟨hx, hb, hml, hown, hts⟩
  obtain ⟨hK, hN⟩ := id G
  subst hsz
  have hD := hD0.self (sz := s.heap.size)
  generalize hAe : va_A (wM cs a M) s.heap.size = A at hD ⊢
  have hA : ∀ q : Nat, s.heap.size ≤ q → A q := fun q h => by rw [← hAe]; exact Or.inr h
  have hS : va_S A s.heap s.heap [] := va_S.rf
  have hR : RTi p l e ({ frames := 1, cells := 0, slots := 0, locals := 21 }) s m ([.ref (a 0), .int (x1), .int (x2), .int (x3)] : List Value).toArray below meth c cX8_leastBy (MQ below (va_Qi (fun r (u : Ms) => r = res.1 ∧ u = res.2) (fun u t => va_P (dC, dI) vwCl ((fun u : Ms => (wM cs a u)) u) t.heap ∧ va_D A ((fun u : Ms => (wM cs a u)) u)) A) ([.ref (a 0), .int (x1), .int (x2), .int (x3)] : List Value).toArray s 0 0 A) (dC, dI) A (fun u : Ms => (wM cs a u)) res := fun H locs pc ls r u dd h hP hD hS => W.iret hx hb hr (fun t ht hW => ⟨⟨r, u, rfl, by cases h; exact ⟨rfl, rfl⟩, by rw [ht]; exact hP, hD⟩, hS.F ht⟩) hS.2.2 dd
  have hl := lv_entry ([.ref (a 0), .int (x1), .int (x2), .int (x3)]) (n := 7) (Nat.le_of_ble_eq_true rfl)
  rw [lg_entry_eq]
  generalize (lg_sl ([.ref (a 0), .int (x1), .int (x2), .int (x3)]) ++ List.replicate (7 - (lg_sl ([.ref (a 0), .int (x1), .int (x2), .int (x3)])).length) Slot.unset).toArray = ls at hl ⊢
  have hl : lv_has ls 7 [(0, .ref (a 0)), (1, .int (x1)), (2, .int (x2)), (3, .int (x3))] := hl
  unfold f_X8_leastBy at hf
  refine lv_iconst (v := 0) hx hb dX8_leastBy_0 (by decide) ?_
  refine lv_topi (fun x4_1 ex4_1 => ?_)
  replace hf := lett_s ex4_1 hf
  refine lv_istore (lv' := [(4, .int (x4_1)), (0, .ref (a 0)), (1, .int (x1)), (2, .int (x2)), (3, .int (x3))]) hx hb dX8_leastBy_1 hl (by decide) rfl (fun ls hl => ?_)
  exact w_X8_leastBy_3 C G hA hR x1 x2 x3 (fun Mz H locs ls hl hP hD hS hf => b_X8_leastBy_23 C G hA hR x1 x2 x3 Mz _ _ _ hl hP hD hS hf) FU x4_1 M _ _ _ (lv_sub hl [1, 2, 3, 4, 0] rfl) hP hD hS hf

def f_X8_power_4 (x0 : Int32) (x1 : Int32) (x2 : Int32) (x3 : Int32) (K4 : Int32 → Int32 → Option Int32) : Option Int32 :=
  if x1 ≤ x3 then (
    some x2
  ) else (
    lett (x2 * x0) fun x2_12 =>
    lett (x3 + 1) fun x3_13 =>
    K4 x2_12 x3_13
  )
set_option maxHeartbeats 4000000 in
set_option maxRecDepth 100000 in
theorem b_X8_power_4 {p : Program} {l : Launch} {e : Env} {s : State} {m : MethodId} {args : Array Value} {below : List Frame} {meth : Method} {c : Code} {Q : State → Prop} {dC : Nat → ClassId} {dI : Nat → Nat → Nat} {cs : Nat → ClassId} {res : Int32} (C : CallFix p m c cX8_power 4 s args wsX8_power RX8) (G : GE dC dI cs s) (hR : RPi p l e ({ frames := 0, cells := 0, slots := 0, locals := 0 }) s m args below meth c cX8_power Q res) (hP : va_P (dC, dI) vwCl ([] : va_W) s.heap) (x0 : Int32) (x1 : Int32) (x2 : Int32) (x3 : Int32)  {K4 : Int32 → Int32 → Option Int32} (hK4 : ∀ (x2 : Int32) (x3 : Int32) (ls : Array Slot), lv_has ls 4 [(0, .int (x0)), (1, .int (x1)), (2, .int (x2)), (3, .int (x3))] → K4 x2 x3 = some res → W p l e ({ frames := 0, cells := 0, slots := 0, locals := 0 }) s m args below meth c s.heap [] 0 0 Q (F0 m 4 ls [])) (ls : Array Slot) (hl : lv_has ls 4 [(0, .int (x0)), (1, .int (x1)), (2, .int (x2)), (3, .int (x3))]) (hf : f_X8_power_4 x0 x1 x2 x3 K4 = some res) : W p l e ({ frames := 0, cells := 0, slots := 0, locals := 0 }) s m args below meth c s.heap [] 0 0 Q (F0 m 4 ls []) := by
  obtain ⟨hx, hb, hml, hown, hts⟩ := id C
  obtain ⟨hK, hN⟩ := id G
  unfold f_X8_power_4 at hf
  refine lv_iload_n hx hb dX8_power_4 rfl (lv_at hl 3 rfl) ?_
  refine lv_iload_n hx hb dX8_power_5 rfl (lv_at hl 1 rfl) ?_
  refine lv_icmp_ge (tgt := 19) hx hb dX8_power_6 (by decide) (fun c1 => ?_) (fun c1 => ?_)
  · replace hf := it_t c1 hf
    refine lv_iload_n hx hb dX8_power_19 rfl (lv_at hl 2 rfl) ?_
    exact hR _ _ _ dX8_power_20 hf
  · replace hf := it_f c1 hf
    refine lv_iload_n hx hb dX8_power_9 rfl (lv_at hl 2 rfl) ?_
    refine lv_iload_n hx hb dX8_power_10 rfl (lv_at hl 0 rfl) ?_
    refine lv_imul hx hb dX8_power_11 ?_
    refine lv_topi (fun x2_12 ex2_12 => ?_)
    replace hf := lett_s ex2_12 hf
    refine lv_istore_n (lv' := [(2, .int (x2_12)), (0, .int (x0)), (1, .int (x1)), (3, .int (x3))]) hx hb dX8_power_12 rfl hl (by decide) rfl (fun ls hl => ?_)
    obtain ⟨x3_13, ex3_13⟩ : ∃ y : Int32, y = (x3 + 1) := ⟨_, rfl⟩
    replace hf := lett_s ex3_13 hf
    refine lv_iinc (v := x3_13) (lv' := [(3, .int (x3_13)), (2, .int (x2_12)), (0, .int (x0)), (1, .int (x1))]) hx hb dX8_power_13 hl (k := 3) rfl (by rw [ex3_13]; rfl) (by decide) rfl (fun ls hl => ?_)
    refine lv_goto (tgt := 4) hx hb dX8_power_16 (by decide) ?_
    exact hK4 x2_12 x3_13 _ (lv_sub hl [2, 3, 1, 0] rfl) hf
def l_X8_power_4 (x0 : Int32) (x1 : Int32)  (n : Nat) (x2 : Int32) (x3 : Int32) : Option Int32 := itr (fun (k : Int32 × Int32 → Option Int32) (z : Int32 × Int32) => f_X8_power_4 x0 x1 z.1 z.2 (fun x2 x3 => k (x2, x3))) n (x2, x3)
set_option maxHeartbeats 4000000 in
set_option maxRecDepth 100000 in
theorem w_X8_power_4 {p : Program} {l : Launch} {e : Env} {s : State} {m : MethodId} {args : Array Value} {below : List Frame} {meth : Method} {c : Code} {Q : State → Prop} {dC : Nat → ClassId} {dI : Nat → Nat → Nat} {cs : Nat → ClassId} {res : Int32} (C : CallFix p m c cX8_power 4 s args wsX8_power RX8) (G : GE dC dI cs s) (hR : RPi p l e ({ frames := 0, cells := 0, slots := 0, locals := 0 }) s m args below meth c cX8_power Q res) (hP : va_P (dC, dI) vwCl ([] : va_W) s.heap) (x0 : Int32) (x1 : Int32)    : ∀ (n : Nat) (x2 : Int32) (x3 : Int32) (ls : Array Slot), lv_has ls 4 [(0, .int (x0)), (1, .int (x1)), (2, .int (x2)), (3, .int (x3))] → l_X8_power_4 x0 x1 n x2 x3 = some res → W p l e ({ frames := 0, cells := 0, slots := 0, locals := 0 }) s m args below meth c s.heap [] 0 0 Q (F0 m 4 ls []) := by
  intro n
  induction n with
  | zero => intro x2 x3 ls hl hf; exact absurd hf (by simp [l_X8_power_4, itr])
  | succ n ih =>
    intro x2 x3 ls hl hf
    replace hf : f_X8_power_4 x0 x1 x2 x3 (fun x2 x3 => l_X8_power_4 x0 x1 n x2 x3) = some res := by rw [← hf]; unfold l_X8_power_4; rw [itr_s]
    exact b_X8_power_4 C G hR hP x0 x1 x2 x3 (K4 := fun x2 x3 => l_X8_power_4 x0 x1 n x2 x3) (fun x2 x3 ls hl hf => ih x2 x3 ls hl hf) ls hl hf
def f_X8_power (x0 : Int32) (x1 : Int32)  : Option Int32 :=
  lett (1 : Int32) fun x2_1 =>
  lett (0 : Int32) fun x3_3 =>
  l_X8_power_4 x0 x1 FU x2_1 x3_3
set_option maxHeartbeats 4000000 in
set_option maxRecDepth 100000 in
theorem c_X8_power (l : Launch) (dC : Nat → ClassId) (dI : Nat → Nat → Nat) (cs : Nat → ClassId)  (x0 : Int32) (x1 : Int32) (res : Int32) (hf : f_X8_power x0 x1 = some res) : Met l yX8_power wsX8_power ({ frames := 0, cells := 0, slots := 0, locals := 0 }) (va_Pc [.int (x0), .int (x1)] (fun U => va_P (dC, dI) vwCl ([] : va_W) U.heap ∧ GE dC dI cs U)) (vp_Si (fun r => r = res)) 0 0 (fun _ => False) := by
  refine Met.ofW (cc := cX8_power) (maxL := 4) (ret := (some .int)) (by decide) rfl ?_
  intro p e s m args below meth c s₁ Bd hml hv
  obtain ⟨rfl, hP, G⟩ := hv
  have hts := atoms_spec (ws := wsX8_power) Bd.pre
  have hown : s.vm.findClass RX8 = some m.cls := findClass_of_methodNamed Bd.named
  have hlocks := Bd.notSynchronized
  have hx := Bd.exec
  have hb := Bd.bytes
  have hr := Bd.returns
  have C : CallFix p m c cX8_power 4 s _ wsX8_power RX8 := ⟨hx, hb, hml, hown, hts⟩
  obtain ⟨hK, hN⟩ := id G
  have hR : RPi p l e ({ frames := 0, cells := 0, slots := 0, locals := 0 }) s m ([.int (x0), .int (x1)] : List Value).toArray below meth c cX8_power (MQ below (vp_Si (fun r => r = res)) ([.int (x0), .int (x1)] : List Value).toArray s 0 0 (fun _ => False)) res := fun pc ls r dd h => W.iret hx hb hr (fun t ht hW => ⟨r, rfl, Option.some.inj h, ht⟩) (fun q hq => by cases hq) dd
  have hl := lv_entry ([.int (x0), .int (x1)]) (n := 4) (Nat.le_of_ble_eq_true rfl)
  rw [lg_entry_eq]
  generalize (lg_sl ([.int (x0), .int (x1)]) ++ List.replicate (4 - (lg_sl ([.int (x0), .int (x1)])).length) Slot.unset).toArray = ls at hl ⊢
  have hl : lv_has ls 4 [(0, .int (x0)), (1, .int (x1))] := hl
  unfold f_X8_power at hf
  refine lv_iconst (v := 1) hx hb dX8_power_0 (by decide) ?_
  refine lv_topi (fun x2_1 ex2_1 => ?_)
  replace hf := lett_s ex2_1 hf
  refine lv_istore_n (lv' := [(2, .int (x2_1)), (0, .int (x0)), (1, .int (x1))]) hx hb dX8_power_1 rfl hl (by decide) rfl (fun ls hl => ?_)
  refine lv_iconst (v := 0) hx hb dX8_power_2 (by decide) ?_
  refine lv_topi (fun x3_3 ex3_3 => ?_)
  replace hf := lett_s ex3_3 hf
  refine lv_istore_n (lv' := [(3, .int (x3_3)), (2, .int (x2_1)), (0, .int (x0)), (1, .int (x1))]) hx hb dX8_power_3 rfl hl (by decide) rfl (fun ls hl => ?_)
  exact w_X8_power_4 C G hR hP x0 x1 FU x2_1 x3_3 _ (lv_sub hl [2, 3, 1, 0] rfl) hf

theorem in_X8_will_X8 : ∀ w ∈ wsX80, w ∈ wsX8_will := by decide +kernel
def f_X8_will_39 (M : Ms)  : Option (Int32 × Ms) :=
  bn (f_X8_badAs (-10 : Int32) M) fun r42 =>
  some (r42.1, r42.2)
set_option maxHeartbeats 4000000 in
set_option maxRecDepth 100000 in
theorem b_X8_will_39 {p : Program} {l : Launch} {e : Env} {s : State} {m : MethodId} {args : Array Value} {below : List Frame} {meth : Method} {c : Code} {Q : State → Prop} {dC : Nat → ClassId} {dI : Nat → Nat → Nat} {cs : Nat → ClassId} {A : Nat → Prop} {a : Nat → Nat} {res : Int32 × Ms} (C : CallFix p m c cX8_will 10 s args wsX8_will RX8) (G : GE dC dI cs s) (hA : ∀ q : Nat, s.heap.size ≤ q → A q) (hR : RTi p l e ({ frames := 2, cells := 0, slots := 0, locals := 47 }) s m args below meth c cX8_will Q (dC, dI) A (fun u : Ms => (wM cs a u)) res) (M : Ms)   (H : Heap) (locs : List Loc) (ls : Array Slot) (hl : lv_has ls 10 [(0, .ref (a 0))]) (hP : va_P (dC, dI) vwCl (wM cs a M) H) (hD : va_D A (wM cs a M)) (hS : va_S A s.heap H locs) (hf : f_X8_will_39 M = some res) : W p l e ({ frames := 2, cells := 0, slots := 0, locals := 47 }) s m args below meth c H locs 0 0 Q (F0 m 39 ls []) := by
  obtain ⟨hx, hb, hml, hown, hts⟩ := id C
  obtain ⟨hK, hN⟩ := id G
  unfold f_X8_will_39 at hf
  refine lv_aload_n hx hb dX8_will_39 rfl (lv_at hl 0 rfl) ?_
  refine lv_bipush (v := -10) hx hb dX8_will_40 (by decide) ?_
  obtain ⟨r42, hr42, hf⟩ := bn_e hf
  have hPc := hP.sub (ws' := (wM cs a M)) [0, 1, 2, 3, 4, 5, 6, 7, 8, 9, 10, 11] rfl
  have hDc := hD.sub (ws' := (wM cs a M)) [0, 1, 2, 3, 4, 5, 6, 7, 8, 9, 10, 11] (by decide) rfl
  have hFc := va_free (wc := (wM cs a M)) hD hS hA [0, 1, 2, 3, 4, 5, 6, 7, 8, 9, 10, 11] rfl
  refine va_calli (va_runV (As := [.int ((-10 : Int32))]) (rest := []) C (c_X8_badAs l dC dI cs a H.size M (-10 : Int32) r42 hr42) (cwV 1 hts gX8_will_X8_badAs rfl rfl rfl (by decide +kernel) ⟨Nat.le_of_ble_eq_true rfl, Nat.le_of_ble_eq_true rfl⟩) ⟨(fun a U g mk q => ⟨q.1, q.2.1, q.2.2.1, GE.calling q.2.2.2.1, q.2.2.2.2⟩), va_recv hK hPc (ci := 8) (q0 := 0) rfl rfl, (fun U hU hW => ⟨rfl, by rw [hU], by rw [hU]; exact hPc, GE.warm hW G, hDc.weaken (fun _ _ _ _ => trivial)⟩)⟩ rfl rfl hl.1 rfl (lv_room (Nat.le_of_ble_eq_true rfl)) dX8_will_42 ⟨Nat.le_of_ble_eq_true rfl, Nat.le_of_ble_eq_true rfl⟩) hS (fun q _ h => hFc q h) hFc (fun q u t H1 locs ht hvm hw hB hz1 hk1 hS => ?_)
  obtain ⟨rfl, rfl⟩ := hw
  obtain ⟨hP1, hD1⟩ := hB
  rw [ht] at hP1
  obtain ⟨hP, hD⟩ := va_join (wr := []) (w1 := (wM cs a r42.2)) hP hD [0, 1, 2, 3, 4, 5, 6, 7, 8, 9, 10, 11] [] rfl rfl (by decide) (by decide) hk1 hFc hP1 hD1
  generalize H1 = H at hP hS ⊢
  have hP := hP.sub (ws' := (wM cs a r42.2)) [0, 1, 2, 3, 4, 5, 6, 7, 8, 9, 10, 11] rfl
  have hD := hD.sub (ws' := (wM cs a r42.2)) [0, 1, 2, 3, 4, 5, 6, 7, 8, 9, 10, 11] (by decide) rfl
  exact hR _ _ _ _ _ _ dX8_will_45 hf hP hD hS
def f_X8_will_100 (x1 : Int32) (x2 : Int32) (x3 : Int32) (x4 : Int32) (x5 : Int32) (M : Ms) (K67 : Int32 → Int32 → Ms → Option (Int32 × Ms)) : Option (Int32 × Ms) :=
  lett (x5 + 1) fun x5_100 =>
  K67 x4 x5_100 M
set_option maxHeartbeats 4000000 in
set_option maxRecDepth 100000 in
theorem b_X8_will_100 {p : Program} {l : Launch} {e : Env} {s : State} {m : MethodId} {args : Array Value} {below : List Frame} {meth : Method} {c : Code} {Q : State → Prop} {dC : Nat → ClassId} {dI : Nat → Nat → Nat} {cs : Nat → ClassId} {A : Nat → Prop} {a : Nat → Nat} {res : Int32 × Ms} (C : CallFix p m c cX8_will 10 s args wsX8_will RX8) (G : GE dC dI cs s) (hA : ∀ q : Nat, s.heap.size ≤ q → A q) (hR : RTi p l e ({ frames := 2, cells := 0, slots := 0, locals := 47 }) s m args below meth c cX8_will Q (dC, dI) A (fun u : Ms => (wM cs a u)) res) (x1 : Int32) (x2 : Int32) (x3 : Int32) (x4 : Int32) (x5 : Int32) (M : Ms) {K67 : Int32 → Int32 → Ms → Option (Int32 × Ms)} (hK67 : ∀ (x4 : Int32) (x5 : Int32) (M : Ms) (H : Heap) (locs : List Loc) (ls : Array Slot), lv_has ls 10 [(0, .ref (a 0)), (1, .int (x1)), (2, .int (x2)), (3, .int (x3)), (4, .int (x4)), (5, .int (x5))] → va_P (dC, dI) vwCl (wM cs a M) H → va_D A (wM cs a M) → va_S A s.heap H locs → K67 x4 x5 M = some res → W p l e ({ frames := 2, cells := 0, slots := 0, locals := 47 }) s m args below meth c H locs 0 0 Q (F0 m 67 ls [])) (H : Heap) (locs : List Loc) (ls : Array Slot) (hl : lv_has ls 10 [(0, .ref (a 0)), (1, .int (x1)), (2, .int (x2)), (3, .int (x3)), (4, .int (x4)), (5, .int (x5))]) (hP : va_P (dC, dI) vwCl (wM cs a M) H) (hD : va_D A (wM cs a M)) (hS : va_S A s.heap H locs) (hf : f_X8_will_100 x1 x2 x3 x4 x5 M K67 = some res) : W p l e ({ frames := 2, cells := 0, slots := 0, locals := 47 }) s m args below meth c H locs 0 0 Q (F0 m 100 ls []) := by
  obtain ⟨hx, hb, hml, hown, hts⟩ := id C
  obtain ⟨hK, hN⟩ := id G
  unfold f_X8_will_100 at hf
  obtain ⟨x5_100, ex5_100⟩ : ∃ y : Int32, y = (x5 + 1) := ⟨_, rfl⟩
  replace hf := lett_s ex5_100 hf
  refine lv_iinc (v := x5_100) (lv' := [(5, .int (x5_100)), (0, .ref (a 0)), (1, .int (x1)), (2, .int (x2)), (3, .int (x3)), (4, .int (x4))]) hx hb dX8_will_100 hl (k := 5) rfl (by rw [ex5_100]; rfl) (by decide) rfl (fun ls hl => ?_)
  refine lv_goto (tgt := 67) hx hb dX8_will_103 (by decide) ?_
  exact hK67 x4 x5_100 M _ _ _ (lv_sub hl [1, 2, 3, 4, 5, 0] rfl) hP hD hS hf
def f_X8_will_67 (x1 : Int32) (x2 : Int32) (x3 : Int32) (x4 : Int32) (x5 : Int32) (M : Ms) (K67 : Int32 → Int32 → Ms → Option (Int32 × Ms)) (K106 : Int32 → Ms → Option (Int32 × Ms)) : Option (Int32 × Ms) :=
  gi ((3 : Int32)) 362 <|
  if ((M.2.2 0) ((3 : Int32)).toNatClampNeg) ≤ x5 then (
    K106 x4 M
  ) else (
    if ((x2 >>> (x5 &&& 31)) &&& (1 : Int32)) = (1 : Int32) then (
      gi (x4) 6 <|
      lett ((M.1, M.2.1, va_up M.2.2 7 (upd (M.2.2 7) (x4).toNatClampNeg (x5)))) fun M_96 =>
      lett (x4 + 1) fun x4_97 =>
      f_X8_will_100 x1 x2 x3 x4_97 x5 M_96 K67
    ) else (
      f_X8_will_100 x1 x2 x3 x4 x5 M K67
    )
  )
set_option maxHeartbeats 4000000 in
set_option maxRecDepth 100000 in
theorem b_X8_will_67 {p : Program} {l : Launch} {e : Env} {s : State} {m : MethodId} {args : Array Value} {below : List Frame} {meth : Method} {c : Code} {Q : State → Prop} {dC : Nat → ClassId} {dI : Nat → Nat → Nat} {cs : Nat → ClassId} {A : Nat → Prop} {a : Nat → Nat} {res : Int32 × Ms} (C : CallFix p m c cX8_will 10 s args wsX8_will RX8) (G : GE dC dI cs s) (hA : ∀ q : Nat, s.heap.size ≤ q → A q) (hR : RTi p l e ({ frames := 2, cells := 0, slots := 0, locals := 47 }) s m args below meth c cX8_will Q (dC, dI) A (fun u : Ms => (wM cs a u)) res) (x1 : Int32) (x2 : Int32) (x3 : Int32) (x4 : Int32) (x5 : Int32) (M : Ms) {K67 : Int32 → Int32 → Ms → Option (Int32 × Ms)} {K106 : Int32 → Ms → Option (Int32 × Ms)} (hK67 : ∀ (x4 : Int32) (x5 : Int32) (M : Ms) (H : Heap) (locs : List Loc) (ls : Array Slot), lv_has ls 10 [(0, .ref (a 0)), (1, .int (x1)), (2, .int (x2)), (3, .int (x3)), (4, .int (x4)), (5, .int (x5))] → va_P (dC, dI) vwCl (wM cs a M) H → va_D A (wM cs a M) → va_S A s.heap H locs → K67 x4 x5 M = some res → W p l e ({ frames := 2, cells := 0, slots := 0, locals := 47 }) s m args below meth c H locs 0 0 Q (F0 m 67 ls [])) (hK106 : ∀ (x4 : Int32) (M : Ms) (H : Heap) (locs : List Loc) (ls : Array Slot), lv_has ls 10 [(0, .ref (a 0)), (1, .int (x1)), (3, .int (x3)), (4, .int (x4))] → va_P (dC, dI) vwCl (wM cs a M) H → va_D A (wM cs a M) → va_S A s.heap H locs → K106 x4 M = some res → W p l e ({ frames := 2, cells := 0, slots := 0, locals := 47 }) s m args below meth c H locs 0 0 Q (F0 m 106 ls [])) (H : Heap) (locs : List Loc) (ls : Array Slot) (hl : lv_has ls 10 [(0, .ref (a 0)), (1, .int (x1)), (2, .int (x2)), (3, .int (x3)), (4, .int (x4)), (5, .int (x5))]) (hP : va_P (dC, dI) vwCl (wM cs a M) H) (hD : va_D A (wM cs a M)) (hS : va_S A s.heap H locs) (hf : f_X8_will_67 x1 x2 x3 x4 x5 M K67 K106 = some res) : W p l e ({ frames := 2, cells := 0, slots := 0, locals := 47 }) s m args below meth c H locs 0 0 Q (F0 m 67 ls []) := by
  obtain ⟨hx, hb, hml, hown, hts⟩ := id C
  obtain ⟨hK, hN⟩ := id G
  unfold f_X8_will_67 at hf
  refine lv_iload hx hb dX8_will_67 (lv_at hl 5 rfl) ?_
  refine lv_aload_n hx hb dX8_will_69 rfl (lv_at hl 0 rfl) ?_
  refine va_get (D := (dC, dI)) (ci := 8) (v := .ref (a 1)) (C := RX8) (T := TX8) (N := 20) hx hb hts in_X8_will_X8 hown hK hP 0 rfl rfl 0 (by decide) (hts (.fieldLink RX8 7 "BackLoansModel" "now" "[I") (by decide +kernel)) (fun _ h9 => h9) rfl dX8_will_70 ?_
  refine lv_iconst (v := 3) hx hb dX8_will_73 (by decide) ?_
  obtain ⟨hi1, hf⟩ := gi_e hf
  refine va_iald hx hb hK hP 1 0 rfl rfl hi1 dX8_will_74 ?_
  refine lv_icmp_ge (tgt := 106) hx hb dX8_will_75 (by decide) (fun c2 => ?_) (fun c2 => ?_)
  · replace hf := it_t c2 hf
    exact hK106 x4 M _ _ _ (lv_sub hl [0, 1, 3, 4] rfl) hP hD hS hf
  · replace hf := it_f c2 hf
    refine lv_iload_n hx hb dX8_will_78 rfl (lv_at hl 2 rfl) ?_
    refine lv_iload hx hb dX8_will_79 (lv_at hl 5 rfl) ?_
    refine lv_ishr hx hb dX8_will_81 ?_
    refine lv_iconst (v := 1) hx hb dX8_will_82 (by decide) ?_
    refine lv_iand hx hb dX8_will_83 ?_
    refine lv_iconst (v := 1) hx hb dX8_will_84 (by decide) ?_
    refine lv_icmp_ne (tgt := 100) hx hb dX8_will_85 (by decide) (fun c3 => ?_) (fun c3 => ?_)
    · replace hf := it_f c3 hf
      exact b_X8_will_100 C G hA hR x1 x2 x3 x4 x5 M hK67 _ _ _ (lv_sub hl [0, 1, 2, 3, 4, 5] rfl) hP hD hS hf
    · replace hf := it_t c3 hf
      refine lv_aload_n hx hb dX8_will_88 rfl (lv_at hl 0 rfl) ?_
      refine va_get (D := (dC, dI)) (ci := 8) (v := .ref (a 8)) (C := RX8) (T := TX8) (N := 20) hx hb hts in_X8_will_X8 hown hK hP 0 rfl rfl 16 (by decide) (hts (.fieldLink RX8 36 "BackLoansModel" "heir" "[I") (by decide +kernel)) (fun _ h9 => h9) rfl dX8_will_89 ?_
      refine lv_iload hx hb dX8_will_92 (lv_at hl 4 rfl) ?_
      refine lv_iload hx hb dX8_will_94 (lv_at hl 5 rfl) ?_
      obtain ⟨hi4, hf⟩ := gi_e hf
      refine va_iast hx hb hK hP hD hS 8 0 rfl rfl hi4 dX8_will_96 (fun H locs hP hD hS => ?_)
      obtain ⟨M_96, hP, hD, hf⟩ := st_nm (ws := fun M_96 : Ms => (wM cs a M_96)) ((M.1, M.2.1, va_up M.2.2 7 (upd (M.2.2 7) (x4).toNatClampNeg (x5)))) hP hD hf
      obtain ⟨x4_97, ex4_97⟩ : ∃ y : Int32, y = (x4 + 1) := ⟨_, rfl⟩
      replace hf := lett_s ex4_97 hf
      refine lv_iinc (v := x4_97) (lv' := [(4, .int (x4_97)), (0, .ref (a 0)), (1, .int (x1)), (2, .int (x2)), (3, .int (x3)), (5, .int (x5))]) hx hb dX8_will_97 hl (k := 4) rfl (by rw [ex4_97]; rfl) (by decide) rfl (fun ls hl => ?_)
      exact b_X8_will_100 C G hA hR x1 x2 x3 x4_97 x5 M_96 hK67 _ _ _ (lv_sub hl [1, 2, 3, 4, 0, 5] rfl) hP hD hS hf
def l_X8_will_67 (x1 : Int32) (x2 : Int32) (x3 : Int32) (K106 : Int32 → Ms → Option (Int32 × Ms)) (n : Nat) (x4 : Int32) (x5 : Int32) (M : Ms) : Option (Int32 × Ms) := itr (fun (k : Int32 × Int32 × Ms → Option (Int32 × Ms)) (z : Int32 × Int32 × Ms) => f_X8_will_67 x1 x2 x3 z.1 z.2.1 z.2.2 (fun x4 x5 M => k (x4, x5, M)) K106) n (x4, x5, M)
set_option maxHeartbeats 4000000 in
set_option maxRecDepth 100000 in
theorem w_X8_will_67 {p : Program} {l : Launch} {e : Env} {s : State} {m : MethodId} {args : Array Value} {below : List Frame} {meth : Method} {c : Code} {Q : State → Prop} {dC : Nat → ClassId} {dI : Nat → Nat → Nat} {cs : Nat → ClassId} {A : Nat → Prop} {a : Nat → Nat} {res : Int32 × Ms} (C : CallFix p m c cX8_will 10 s args wsX8_will RX8) (G : GE dC dI cs s) (hA : ∀ q : Nat, s.heap.size ≤ q → A q) (hR : RTi p l e ({ frames := 2, cells := 0, slots := 0, locals := 47 }) s m args below meth c cX8_will Q (dC, dI) A (fun u : Ms => (wM cs a u)) res) (x1 : Int32) (x2 : Int32) (x3 : Int32) {K106 : Int32 → Ms → Option (Int32 × Ms)} (hK106 : ∀ (x4 : Int32) (M : Ms) (H : Heap) (locs : List Loc) (ls : Array Slot), lv_has ls 10 [(0, .ref (a 0)), (1, .int (x1)), (3, .int (x3)), (4, .int (x4))] → va_P (dC, dI) vwCl (wM cs a M) H → va_D A (wM cs a M) → va_S A s.heap H locs → K106 x4 M = some res → W p l e ({ frames := 2, cells := 0, slots := 0, locals := 47 }) s m args below meth c H locs 0 0 Q (F0 m 106 ls [])) : ∀ (n : Nat) (x4 : Int32) (x5 : Int32) (M : Ms) (H : Heap) (locs : List Loc) (ls : Array Slot), lv_has ls 10 [(0, .ref (a 0)), (1, .int (x1)), (2, .int (x2)), (3, .int (x3)), (4, .int (x4)), (5, .int (x5))] → va_P (dC, dI) vwCl (wM cs a M) H → va_D A (wM cs a M) → va_S A s.heap H locs → l_X8_will_67 x1 x2 x3 K106 n x4 x5 M = some res → W p l e ({ frames := 2, cells := 0, slots := 0, locals := 47 }) s m args below meth c H locs 0 0 Q (F0 m 67 ls []) := by
  intro n
  induction n with
  | zero => intro x4 x5 M H locs ls hl hP hD hS hf; exact absurd hf (by simp [l_X8_will_67, itr])
  | succ n ih =>
    intro x4 x5 M H locs ls hl hP hD hS hf
    replace hf : f_X8_will_67 x1 x2 x3 x4 x5 M (fun x4 x5 M => l_X8_will_67 x1 x2 x3 K106 n x4 x5 M) K106 = some res := by rw [← hf]; unfold l_X8_will_67; rw [itr_s]
    exact b_X8_will_67 C G hA hR x1 x2 x3 x4 x5 M (K67 := fun x4 x5 M => l_X8_will_67 x1 x2 x3 K106 n x4 x5 M) (fun x4 x5 M H locs ls hl hP hD hS hf => ih x4 x5 M H locs ls hl hP hD hS hf) hK106 H locs ls hl hP hD hS hf
def f_X8_will_184 (x1 : Int32) (x3 : Int32) (x4 : Int32) (x5 : Int32) (x6 : Int32) (M : Ms) (K112 : Int32 → Int32 → Ms → Option (Int32 × Ms)) : Option (Int32 × Ms) :=
  lett (x6 + 1) fun x6_184 =>
  K112 x5 x6_184 M
set_option maxHeartbeats 4000000 in
set_option maxRecDepth 100000 in
theorem b_X8_will_184 {p : Program} {l : Launch} {e : Env} {s : State} {m : MethodId} {args : Array Value} {below : List Frame} {meth : Method} {c : Code} {Q : State → Prop} {dC : Nat → ClassId} {dI : Nat → Nat → Nat} {cs : Nat → ClassId} {A : Nat → Prop} {a : Nat → Nat} {res : Int32 × Ms} (C : CallFix p m c cX8_will 10 s args wsX8_will RX8) (G : GE dC dI cs s) (hA : ∀ q : Nat, s.heap.size ≤ q → A q) (hR : RTi p l e ({ frames := 2, cells := 0, slots := 0, locals := 47 }) s m args below meth c cX8_will Q (dC, dI) A (fun u : Ms => (wM cs a u)) res) (x1 : Int32) (x3 : Int32) (x4 : Int32) (x5 : Int32) (x6 : Int32) (M : Ms) {K112 : Int32 → Int32 → Ms → Option (Int32 × Ms)} (hK112 : ∀ (x5 : Int32) (x6 : Int32) (M : Ms) (H : Heap) (locs : List Loc) (ls : Array Slot), lv_has ls 10 [(0, .ref (a 0)), (1, .int (x1)), (3, .int (x3)), (4, .int (x4)), (5, .int (x5)), (6, .int (x6))] → va_P (dC, dI) vwCl (wM cs a M) H → va_D A (wM cs a M) → va_S A s.heap H locs → K112 x5 x6 M = some res → W p l e ({ frames := 2, cells := 0, slots := 0, locals := 47 }) s m args below meth c H locs 0 0 Q (F0 m 112 ls [])) (H : Heap) (locs : List Loc) (ls : Array Slot) (hl : lv_has ls 10 [(0, .ref (a 0)), (1, .int (x1)), (3, .int (x3)), (4, .int (x4)), (5, .int (x5)), (6, .int (x6))]) (hP : va_P (dC, dI) vwCl (wM cs a M) H) (hD : va_D A (wM cs a M)) (hS : va_S A s.heap H locs) (hf : f_X8_will_184 x1 x3 x4 x5 x6 M K112 = some res) : W p l e ({ frames := 2, cells := 0, slots := 0, locals := 47 }) s m args below meth c H locs 0 0 Q (F0 m 184 ls []) := by
  obtain ⟨hx, hb, hml, hown, hts⟩ := id C
  obtain ⟨hK, hN⟩ := id G
  unfold f_X8_will_184 at hf
  obtain ⟨x6_184, ex6_184⟩ : ∃ y : Int32, y = (x6 + 1) := ⟨_, rfl⟩
  replace hf := lett_s ex6_184 hf
  refine lv_iinc (v := x6_184) (lv' := [(6, .int (x6_184)), (0, .ref (a 0)), (1, .int (x1)), (3, .int (x3)), (4, .int (x4)), (5, .int (x5))]) hx hb dX8_will_184 hl (k := 5) rfl (by rw [ex6_184]; rfl) (by decide) rfl (fun ls hl => ?_)
  refine lv_goto (tgt := 112) hx hb dX8_will_187 (by decide) ?_
  exact hK112 x5 x6_184 M _ _ _ (lv_sub hl [1, 2, 3, 4, 5, 0] rfl) hP hD hS hf
def f_X8_will_172 (x1 : Int32) (x3 : Int32) (x4 : Int32) (x5 : Int32) (x6 : Int32) (M : Ms) (K112 : Int32 → Int32 → Ms → Option (Int32 × Ms)) : Option (Int32 × Ms) :=
  gi (x5) 8 <|
  lett ((M.1, M.2.1, va_up M.2.2 9 (upd (M.2.2 9) (x5).toNatClampNeg (x6)))) fun M_180 =>
  lett (x5 + 1) fun x5_181 =>
  f_X8_will_184 x1 x3 x4 x5_181 x6 M_180 K112
set_option maxHeartbeats 4000000 in
set_option maxRecDepth 100000 in
theorem b_X8_will_172 {p : Program} {l : Launch} {e : Env} {s : State} {m : MethodId} {args : Array Value} {below : List Frame} {meth : Method} {c : Code} {Q : State → Prop} {dC : Nat → ClassId} {dI : Nat → Nat → Nat} {cs : Nat → ClassId} {A : Nat → Prop} {a : Nat → Nat} {res : Int32 × Ms} (C : CallFix p m c cX8_will 10 s args wsX8_will RX8) (G : GE dC dI cs s) (hA : ∀ q : Nat, s.heap.size ≤ q → A q) (hR : RTi p l e ({ frames := 2, cells := 0, slots := 0, locals := 47 }) s m args below meth c cX8_will Q (dC, dI) A (fun u : Ms => (wM cs a u)) res) (x1 : Int32) (x3 : Int32) (x4 : Int32) (x5 : Int32) (x6 : Int32) (M : Ms) {K112 : Int32 → Int32 → Ms → Option (Int32 × Ms)} (hK112 : ∀ (x5 : Int32) (x6 : Int32) (M : Ms) (H : Heap) (locs : List Loc) (ls : Array Slot), lv_has ls 10 [(0, .ref (a 0)), (1, .int (x1)), (3, .int (x3)), (4, .int (x4)), (5, .int (x5)), (6, .int (x6))] → va_P (dC, dI) vwCl (wM cs a M) H → va_D A (wM cs a M) → va_S A s.heap H locs → K112 x5 x6 M = some res → W p l e ({ frames := 2, cells := 0, slots := 0, locals := 47 }) s m args below meth c H locs 0 0 Q (F0 m 112 ls [])) (H : Heap) (locs : List Loc) (ls : Array Slot) (hl : lv_has ls 10 [(0, .ref (a 0)), (1, .int (x1)), (3, .int (x3)), (4, .int (x4)), (5, .int (x5)), (6, .int (x6))]) (hP : va_P (dC, dI) vwCl (wM cs a M) H) (hD : va_D A (wM cs a M)) (hS : va_S A s.heap H locs) (hf : f_X8_will_172 x1 x3 x4 x5 x6 M K112 = some res) : W p l e ({ frames := 2, cells := 0, slots := 0, locals := 47 }) s m args below meth c H locs 0 0 Q (F0 m 172 ls []) := by
  obtain ⟨hx, hb, hml, hown, hts⟩ := id C
  obtain ⟨hK, hN⟩ := id G
  unfold f_X8_will_172 at hf
  refine lv_aload_n hx hb dX8_will_172 rfl (lv_at hl 0 rfl) ?_
  refine va_get (D := (dC, dI)) (ci := 8) (v := .ref (a 10)) (C := RX8) (T := TX8) (N := 20) hx hb hts in_X8_will_X8 hown hK hP 0 rfl rfl 18 (by decide) (hts (.fieldLink RX8 42 "BackLoansModel" "loanOf" "[I") (by decide +kernel)) (fun _ h9 => h9) rfl dX8_will_173 ?_
  refine lv_iload hx hb dX8_will_176 (lv_at hl 4 rfl) ?_
  refine lv_iload hx hb dX8_will_178 (lv_at hl 5 rfl) ?_
  obtain ⟨hi1, hf⟩ := gi_e hf
  refine va_iast hx hb hK hP hD hS 10 0 rfl rfl hi1 dX8_will_180 (fun H locs hP hD hS => ?_)
  obtain ⟨M_180, hP, hD, hf⟩ := st_nm (ws := fun M_180 : Ms => (wM cs a M_180)) ((M.1, M.2.1, va_up M.2.2 9 (upd (M.2.2 9) (x5).toNatClampNeg (x6)))) hP hD hf
  obtain ⟨x5_181, ex5_181⟩ : ∃ y : Int32, y = (x5 + 1) := ⟨_, rfl⟩
  replace hf := lett_s ex5_181 hf
  refine lv_iinc (v := x5_181) (lv' := [(5, .int (x5_181)), (0, .ref (a 0)), (1, .int (x1)), (3, .int (x3)), (4, .int (x4)), (6, .int (x6))]) hx hb dX8_will_181 hl (k := 4) rfl (by rw [ex5_181]; rfl) (by decide) rfl (fun ls hl => ?_)
  exact b_X8_will_184 C G hA hR x1 x3 x4 x5_181 x6 M_180 hK112 _ _ _ (lv_sub hl [1, 2, 3, 4, 0, 5] rfl) hP hD hS hf
def f_X8_will_112 (x1 : Int32) (x3 : Int32) (x4 : Int32) (x5 : Int32) (x6 : Int32) (M : Ms) (K112 : Int32 → Int32 → Ms → Option (Int32 × Ms)) (K190 : Int32 → Ms → Option (Int32 × Ms)) : Option (Int32 × Ms) :=
  gi ((4 : Int32)) 362 <|
  if ((M.2.2 0) ((4 : Int32)).toNatClampNeg) ≤ x6 then (
    K190 x5 M
  ) else (
    gi ((((26 : Int32) + ((5 : Int32) * x6)) + (3 : Int32))) 362 <|
    lett ((M.2.2 0) ((((26 : Int32) + ((5 : Int32) * x6)) + (3 : Int32))).toNatClampNeg) fun x7_137 =>
    gi (((26 : Int32) + ((5 : Int32) * x6))) 362 <|
    if ((M.2.2 0) (((26 : Int32) + ((5 : Int32) * x6))).toNatClampNeg) = x1 then (
      if x7_137 = 0 then (
        f_X8_will_172 x1 x3 x4 x5 x6 M K112
      ) else (
        if x7_137 = (2 : Int32) then (
          f_X8_will_172 x1 x3 x4 x5 x6 M K112
        ) else (
          if x7_137 = (3 : Int32) then (
            f_X8_will_172 x1 x3 x4 x5 x6 M K112
          ) else (
            f_X8_will_184 x1 x3 x4 x5 x6 M K112
          )
        )
      )
    ) else (
      f_X8_will_184 x1 x3 x4 x5 x6 M K112
    )
  )
set_option maxHeartbeats 4000000 in
set_option maxRecDepth 100000 in
theorem b_X8_will_112 {p : Program} {l : Launch} {e : Env} {s : State} {m : MethodId} {args : Array Value} {below : List Frame} {meth : Method} {c : Code} {Q : State → Prop} {dC : Nat → ClassId} {dI : Nat → Nat → Nat} {cs : Nat → ClassId} {A : Nat → Prop} {a : Nat → Nat} {res : Int32 × Ms} (C : CallFix p m c cX8_will 10 s args wsX8_will RX8) (G : GE dC dI cs s) (hA : ∀ q : Nat, s.heap.size ≤ q → A q) (hR : RTi p l e ({ frames := 2, cells := 0, slots := 0, locals := 47 }) s m args below meth c cX8_will Q (dC, dI) A (fun u : Ms => (wM cs a u)) res) (x1 : Int32) (x3 : Int32) (x4 : Int32) (x5 : Int32) (x6 : Int32) (M : Ms) {K112 : Int32 → Int32 → Ms → Option (Int32 × Ms)} {K190 : Int32 → Ms → Option (Int32 × Ms)} (hK112 : ∀ (x5 : Int32) (x6 : Int32) (M : Ms) (H : Heap) (locs : List Loc) (ls : Array Slot), lv_has ls 10 [(0, .ref (a 0)), (1, .int (x1)), (3, .int (x3)), (4, .int (x4)), (5, .int (x5)), (6, .int (x6))] → va_P (dC, dI) vwCl (wM cs a M) H → va_D A (wM cs a M) → va_S A s.heap H locs → K112 x5 x6 M = some res → W p l e ({ frames := 2, cells := 0, slots := 0, locals := 47 }) s m args below meth c H locs 0 0 Q (F0 m 112 ls [])) (hK190 : ∀ (x5 : Int32) (M : Ms) (H : Heap) (locs : List Loc) (ls : Array Slot), lv_has ls 10 [(0, .ref (a 0)), (3, .int (x3)), (4, .int (x4)), (5, .int (x5))] → va_P (dC, dI) vwCl (wM cs a M) H → va_D A (wM cs a M) → va_S A s.heap H locs → K190 x5 M = some res → W p l e ({ frames := 2, cells := 0, slots := 0, locals := 47 }) s m args below meth c H locs 0 0 Q (F0 m 190 ls [])) (H : Heap) (locs : List Loc) (ls : Array Slot) (hl : lv_has ls 10 [(0, .ref (a 0)), (1, .int (x1)), (3, .int (x3)), (4, .int (x4)), (5, .int (x5)), (6, .int (x6))]) (hP : va_P (dC, dI) vwCl (wM cs a M) H) (hD : va_D A (wM cs a M)) (hS : va_S A s.heap H locs) (hf : f_X8_will_112 x1 x3 x4 x5 x6 M K112 K190 = some res) : W p l e ({ frames := 2, cells := 0, slots := 0, locals := 47 }) s m args below meth c H locs 0 0 Q (F0 m 112 ls []) := by
  obtain ⟨hx, hb, hml, hown, hts⟩ := id C
  obtain ⟨hK, hN⟩ := id G
  unfold f_X8_will_112 at hf
  refine lv_iload hx hb dX8_will_112 (lv_at hl 5 rfl) ?_
  refine lv_aload_n hx hb dX8_will_114 rfl (lv_at hl 0 rfl) ?_
  refine va_get (D := (dC, dI)) (ci := 8) (v := .ref (a 1)) (C := RX8) (T := TX8) (N := 20) hx hb hts in_X8_will_X8 hown hK hP 0 rfl rfl 0 (by decide) (hts (.fieldLink RX8 7 "BackLoansModel" "now" "[I") (by decide +kernel)) (fun _ h9 => h9) rfl dX8_will_115 ?_
  refine lv_iconst (v := 4) hx hb dX8_will_118 (by decide) ?_
  obtain ⟨hi1, hf⟩ := gi_e hf
  refine va_iald hx hb hK hP 1 0 rfl rfl hi1 dX8_will_119 ?_
  refine lv_icmp_ge (tgt := 190) hx hb dX8_will_120 (by decide) (fun c2 => ?_) (fun c2 => ?_)
  · replace hf := it_t c2 hf
    exact hK190 x5 M _ _ _ (lv_sub hl [0, 2, 3, 4] rfl) hP hD hS hf
  · replace hf := it_f c2 hf
    refine lv_aload_n hx hb dX8_will_123 rfl (lv_at hl 0 rfl) ?_
    refine va_get (D := (dC, dI)) (ci := 8) (v := .ref (a 1)) (C := RX8) (T := TX8) (N := 20) hx hb hts in_X8_will_X8 hown hK hP 0 rfl rfl 0 (by decide) (hts (.fieldLink RX8 7 "BackLoansModel" "now" "[I") (by decide +kernel)) (fun _ h9 => h9) rfl dX8_will_124 ?_
    refine lv_bipush (v := 26) hx hb dX8_will_127 (by decide) ?_
    refine lv_iconst (v := 5) hx hb dX8_will_129 (by decide) ?_
    refine lv_iload hx hb dX8_will_130 (lv_at hl 5 rfl) ?_
    refine lv_imul hx hb dX8_will_132 ?_
    refine lv_iadd hx hb dX8_will_133 ?_
    refine lv_iconst (v := 3) hx hb dX8_will_134 (by decide) ?_
    refine lv_iadd hx hb dX8_will_135 ?_
    obtain ⟨hi3, hf⟩ := gi_e hf
    refine va_iald hx hb hK hP 1 0 rfl rfl hi3 dX8_will_136 ?_
    refine lv_topi (fun x7_137 ex7_137 => ?_)
    replace hf := lett_s ex7_137 hf
    refine lv_istore (lv' := [(7, .int (x7_137)), (0, .ref (a 0)), (1, .int (x1)), (3, .int (x3)), (4, .int (x4)), (5, .int (x5)), (6, .int (x6))]) hx hb dX8_will_137 hl (by decide) rfl (fun ls hl => ?_)
    refine lv_aload_n hx hb dX8_will_139 rfl (lv_at hl 1 rfl) ?_
    refine va_get (D := (dC, dI)) (ci := 8) (v := .ref (a 1)) (C := RX8) (T := TX8) (N := 20) hx hb hts in_X8_will_X8 hown hK hP 0 rfl rfl 0 (by decide) (hts (.fieldLink RX8 7 "BackLoansModel" "now" "[I") (by decide +kernel)) (fun _ h9 => h9) rfl dX8_will_140 ?_
    refine lv_bipush (v := 26) hx hb dX8_will_143 (by decide) ?_
    refine lv_iconst (v := 5) hx hb dX8_will_145 (by decide) ?_
    refine lv_iload hx hb dX8_will_146 (lv_at hl 6 rfl) ?_
    refine lv_imul hx hb dX8_will_148 ?_
    refine lv_iadd hx hb dX8_will_149 ?_
    obtain ⟨hi4, hf⟩ := gi_e hf
    refine va_iald hx hb hK hP 1 0 rfl rfl hi4 dX8_will_150 ?_
    refine lv_iload_n hx hb dX8_will_151 rfl (lv_at hl 2 rfl) ?_
    refine lv_icmp_ne (tgt := 184) hx hb dX8_will_152 (by decide) (fun c5 => ?_) (fun c5 => ?_)
    · replace hf := it_f c5 hf
      exact b_X8_will_184 C G hA hR x1 x3 x4 x5 x6 M hK112 _ _ _ (lv_sub hl [1, 2, 3, 4, 5, 6] rfl) hP hD hS hf
    · replace hf := it_t c5 hf
      refine lv_iload hx hb dX8_will_155 (lv_at hl 0 rfl) ?_
      refine lv_if_eq (tgt := 172) hx hb dX8_will_157 (by decide) (fun c6 => ?_) (fun c6 => ?_)
      · replace hf := it_t c6 hf
        exact b_X8_will_172 C G hA hR x1 x3 x4 x5 x6 M hK112 _ _ _ (lv_sub hl [1, 2, 3, 4, 5, 6] rfl) hP hD hS hf
      · replace hf := it_f c6 hf
        refine lv_iload hx hb dX8_will_160 (lv_at hl 0 rfl) ?_
        refine lv_iconst (v := 2) hx hb dX8_will_162 (by decide) ?_
        refine lv_icmp_eq (tgt := 172) hx hb dX8_will_163 (by decide) (fun c7 => ?_) (fun c7 => ?_)
        · replace hf := it_t c7 hf
          exact b_X8_will_172 C G hA hR x1 x3 x4 x5 x6 M hK112 _ _ _ (lv_sub hl [1, 2, 3, 4, 5, 6] rfl) hP hD hS hf
        · replace hf := it_f c7 hf
          refine lv_iload hx hb dX8_will_166 (lv_at hl 0 rfl) ?_
          refine lv_iconst (v := 3) hx hb dX8_will_168 (by decide) ?_
          refine lv_icmp_ne (tgt := 184) hx hb dX8_will_169 (by decide) (fun c8 => ?_) (fun c8 => ?_)
          · replace hf := it_f c8 hf
            exact b_X8_will_184 C G hA hR x1 x3 x4 x5 x6 M hK112 _ _ _ (lv_sub hl [1, 2, 3, 4, 5, 6] rfl) hP hD hS hf
          · replace hf := it_t c8 hf
            exact b_X8_will_172 C G hA hR x1 x3 x4 x5 x6 M hK112 _ _ _ (lv_sub hl [1, 2, 3, 4, 5, 6] rfl) hP hD hS hf
def l_X8_will_112 (x1 : Int32) (x3 : Int32) (x4 : Int32) (K190 : Int32 → Ms → Option (Int32 × Ms)) (n : Nat) (x5 : Int32) (x6 : Int32) (M : Ms) : Option (Int32 × Ms) := itr (fun (k : Int32 × Int32 × Ms → Option (Int32 × Ms)) (z : Int32 × Int32 × Ms) => f_X8_will_112 x1 x3 x4 z.1 z.2.1 z.2.2 (fun x5 x6 M => k (x5, x6, M)) K190) n (x5, x6, M)
set_option maxHeartbeats 4000000 in
set_option maxRecDepth 100000 in
theorem w_X8_will_112 {p : Program} {l : Launch} {e : Env} {s : State} {m : MethodId} {args : Array Value} {below : List Frame} {meth : Method} {c : Code} {Q : State → Prop} {dC : Nat → ClassId} {dI : Nat → Nat → Nat} {cs : Nat → ClassId} {A : Nat → Prop} {a : Nat → Nat} {res : Int32 × Ms} (C : CallFix p m c cX8_will 10 s args wsX8_will RX8) (G : GE dC dI cs s) (hA : ∀ q : Nat, s.heap.size ≤ q → A q) (hR : RTi p l e ({ frames := 2, cells := 0, slots := 0, locals := 47 }) s m args below meth c cX8_will Q (dC, dI) A (fun u : Ms => (wM cs a u)) res) (x1 : Int32) (x3 : Int32) (x4 : Int32) {K190 : Int32 → Ms → Option (Int32 × Ms)} (hK190 : ∀ (x5 : Int32) (M : Ms) (H : Heap) (locs : List Loc) (ls : Array Slot), lv_has ls 10 [(0, .ref (a 0)), (3, .int (x3)), (4, .int (x4)), (5, .int (x5))] → va_P (dC, dI) vwCl (wM cs a M) H → va_D A (wM cs a M) → va_S A s.heap H locs → K190 x5 M = some res → W p l e ({ frames := 2, cells := 0, slots := 0, locals := 47 }) s m args below meth c H locs 0 0 Q (F0 m 190 ls [])) : ∀ (n : Nat) (x5 : Int32) (x6 : Int32) (M : Ms) (H : Heap) (locs : List Loc) (ls : Array Slot), lv_has ls 10 [(0, .ref (a 0)), (1, .int (x1)), (3, .int (x3)), (4, .int (x4)), (5, .int (x5)), (6, .int (x6))] → va_P (dC, dI) vwCl (wM cs a M) H → va_D A (wM cs a M) → va_S A s.heap H locs → l_X8_will_112 x1 x3 x4 K190 n x5 x6 M = some res → W p l e ({ frames := 2, cells := 0, slots := 0, locals := 47 }) s m args below meth c H locs 0 0 Q (F0 m 112 ls []) := by
  intro n
  induction n with
  | zero => intro x5 x6 M H locs ls hl hP hD hS hf; exact absurd hf (by simp [l_X8_will_112, itr])
  | succ n ih =>
    intro x5 x6 M H locs ls hl hP hD hS hf
    replace hf : f_X8_will_112 x1 x3 x4 x5 x6 M (fun x5 x6 M => l_X8_will_112 x1 x3 x4 K190 n x5 x6 M) K190 = some res := by rw [← hf]; unfold l_X8_will_112; rw [itr_s]
    exact b_X8_will_112 C G hA hR x1 x3 x4 x5 x6 M (K112 := fun x5 x6 M => l_X8_will_112 x1 x3 x4 K190 n x5 x6 M) (fun x5 x6 M H locs ls hl hP hD hS hf => ih x5 x6 M H locs ls hl hP hD hS hf) hK190 H locs ls hl hP hD hS hf
def f_X8_will_253 (x3 : Int32) (x4 : Int32) (x5 : Int32) (x7 : Int32) (x8 : Int32) (s0 : Int32) (M : Ms) (K199 : Int32 → Int32 → Int32 → Ms → Option (Int32 × Ms)) : Option (Int32 × Ms) :=
  lett (x8 + 1) fun x8_255 =>
  K199 s0 x7 x8_255 M
set_option maxHeartbeats 4000000 in
set_option maxRecDepth 100000 in
theorem b_X8_will_253 {p : Program} {l : Launch} {e : Env} {s : State} {m : MethodId} {args : Array Value} {below : List Frame} {meth : Method} {c : Code} {Q : State → Prop} {dC : Nat → ClassId} {dI : Nat → Nat → Nat} {cs : Nat → ClassId} {A : Nat → Prop} {a : Nat → Nat} {res : Int32 × Ms} (C : CallFix p m c cX8_will 10 s args wsX8_will RX8) (G : GE dC dI cs s) (hA : ∀ q : Nat, s.heap.size ≤ q → A q) (hR : RTi p l e ({ frames := 2, cells := 0, slots := 0, locals := 47 }) s m args below meth c cX8_will Q (dC, dI) A (fun u : Ms => (wM cs a u)) res) (x3 : Int32) (x4 : Int32) (x5 : Int32) (x7 : Int32) (x8 : Int32) (s0 : Int32) (M : Ms) {K199 : Int32 → Int32 → Int32 → Ms → Option (Int32 × Ms)} (hK199 : ∀ (x6 : Int32) (x7 : Int32) (x8 : Int32) (M : Ms) (H : Heap) (locs : List Loc) (ls : Array Slot), lv_has ls 10 [(0, .ref (a 0)), (3, .int (x3)), (4, .int (x4)), (5, .int (x5)), (6, .int (x6)), (7, .int (x7)), (8, .int (x8))] → va_P (dC, dI) vwCl (wM cs a M) H → va_D A (wM cs a M) → va_S A s.heap H locs → K199 x6 x7 x8 M = some res → W p l e ({ frames := 2, cells := 0, slots := 0, locals := 47 }) s m args below meth c H locs 0 0 Q (F0 m 199 ls [])) (H : Heap) (locs : List Loc) (ls : Array Slot) (hl : lv_has ls 10 [(0, .ref (a 0)), (3, .int (x3)), (4, .int (x4)), (5, .int (x5)), (7, .int (x7)), (8, .int (x8))]) (hP : va_P (dC, dI) vwCl (wM cs a M) H) (hD : va_D A (wM cs a M)) (hS : va_S A s.heap H locs) (hf : f_X8_will_253 x3 x4 x5 x7 x8 s0 M K199 = some res) : W p l e ({ frames := 2, cells := 0, slots := 0, locals := 47 }) s m args below meth c H locs 0 0 Q (F0 m 253 ls [.int (s0)]) := by
  obtain ⟨hx, hb, hml, hown, hts⟩ := id C
  obtain ⟨hK, hN⟩ := id G
  unfold f_X8_will_253 at hf
  refine lv_istore (lv' := [(6, .int (s0)), (0, .ref (a 0)), (3, .int (x3)), (4, .int (x4)), (5, .int (x5)), (7, .int (x7)), (8, .int (x8))]) hx hb dX8_will_253 hl (by decide) rfl (fun ls hl => ?_)
  obtain ⟨x8_255, ex8_255⟩ : ∃ y : Int32, y = (x8 + 1) := ⟨_, rfl⟩
  replace hf := lett_s ex8_255 hf
  refine lv_iinc (v := x8_255) (lv' := [(8, .int (x8_255)), (6, .int (s0)), (0, .ref (a 0)), (3, .int (x3)), (4, .int (x4)), (5, .int (x5)), (7, .int (x7))]) hx hb dX8_will_255 hl (k := 6) rfl (by rw [ex8_255]; rfl) (by decide) rfl (fun ls hl => ?_)
  refine lv_goto (tgt := 199) hx hb dX8_will_258 (by decide) ?_
  exact hK199 s0 x7 x8_255 M _ _ _ (lv_sub hl [2, 3, 4, 5, 1, 6, 0] rfl) hP hD hS hf
def f_X8_will_237 (x3 : Int32) (x4 : Int32) (x5 : Int32) (x6 : Int32) (x8 : Int32) (x9 : Int32) (s0 : Int32) (M : Ms) (K199 : Int32 → Int32 → Int32 → Ms → Option (Int32 × Ms)) : Option (Int32 × Ms) :=
  if x9 ≤ x6 then (
    f_X8_will_253 x3 x4 x5 s0 x8 x6 M K199
  ) else (
    f_X8_will_253 x3 x4 x5 s0 x8 x9 M K199
  )
set_option maxHeartbeats 4000000 in
set_option maxRecDepth 100000 in
theorem b_X8_will_237 {p : Program} {l : Launch} {e : Env} {s : State} {m : MethodId} {args : Array Value} {below : List Frame} {meth : Method} {c : Code} {Q : State → Prop} {dC : Nat → ClassId} {dI : Nat → Nat → Nat} {cs : Nat → ClassId} {A : Nat → Prop} {a : Nat → Nat} {res : Int32 × Ms} (C : CallFix p m c cX8_will 10 s args wsX8_will RX8) (G : GE dC dI cs s) (hA : ∀ q : Nat, s.heap.size ≤ q → A q) (hR : RTi p l e ({ frames := 2, cells := 0, slots := 0, locals := 47 }) s m args below meth c cX8_will Q (dC, dI) A (fun u : Ms => (wM cs a u)) res) (x3 : Int32) (x4 : Int32) (x5 : Int32) (x6 : Int32) (x8 : Int32) (x9 : Int32) (s0 : Int32) (M : Ms) {K199 : Int32 → Int32 → Int32 → Ms → Option (Int32 × Ms)} (hK199 : ∀ (x6 : Int32) (x7 : Int32) (x8 : Int32) (M : Ms) (H : Heap) (locs : List Loc) (ls : Array Slot), lv_has ls 10 [(0, .ref (a 0)), (3, .int (x3)), (4, .int (x4)), (5, .int (x5)), (6, .int (x6)), (7, .int (x7)), (8, .int (x8))] → va_P (dC, dI) vwCl (wM cs a M) H → va_D A (wM cs a M) → va_S A s.heap H locs → K199 x6 x7 x8 M = some res → W p l e ({ frames := 2, cells := 0, slots := 0, locals := 47 }) s m args below meth c H locs 0 0 Q (F0 m 199 ls [])) (H : Heap) (locs : List Loc) (ls : Array Slot) (hl : lv_has ls 10 [(0, .ref (a 0)), (3, .int (x3)), (4, .int (x4)), (5, .int (x5)), (6, .int (x6)), (8, .int (x8)), (9, .int (x9))]) (hP : va_P (dC, dI) vwCl (wM cs a M) H) (hD : va_D A (wM cs a M)) (hS : va_S A s.heap H locs) (hf : f_X8_will_237 x3 x4 x5 x6 x8 x9 s0 M K199 = some res) : W p l e ({ frames := 2, cells := 0, slots := 0, locals := 47 }) s m args below meth c H locs 0 0 Q (F0 m 237 ls [.int (s0)]) := by
  obtain ⟨hx, hb, hml, hown, hts⟩ := id C
  obtain ⟨hK, hN⟩ := id G
  unfold f_X8_will_237 at hf
  refine lv_istore (lv' := [(7, .int (s0)), (0, .ref (a 0)), (3, .int (x3)), (4, .int (x4)), (5, .int (x5)), (6, .int (x6)), (8, .int (x8)), (9, .int (x9))]) hx hb dX8_will_237 hl (by decide) rfl (fun ls hl => ?_)
  refine lv_iload hx hb dX8_will_239 (lv_at hl 7 rfl) ?_
  refine lv_iload hx hb dX8_will_241 (lv_at hl 5 rfl) ?_
  refine lv_icmp_le (tgt := 251) hx hb dX8_will_243 (by decide) (fun c1 => ?_) (fun c1 => ?_)
  · replace hf := it_t c1 hf
    refine lv_iload hx hb dX8_will_251 (lv_at hl 5 rfl) ?_
    exact b_X8_will_253 C G hA hR x3 x4 x5 s0 x8 x6 M hK199 _ _ _ (lv_sub hl [1, 2, 3, 4, 0, 6] rfl) hP hD hS hf
  · replace hf := it_f c1 hf
    refine lv_iload hx hb dX8_will_246 (lv_at hl 7 rfl) ?_
    refine lv_goto (tgt := 253) hx hb dX8_will_248 (by decide) ?_
    exact b_X8_will_253 C G hA hR x3 x4 x5 s0 x8 x9 M hK199 _ _ _ (lv_sub hl [1, 2, 3, 4, 0, 6] rfl) hP hD hS hf
def f_X8_will_199 (x3 : Int32) (x4 : Int32) (x5 : Int32) (x6 : Int32) (x7 : Int32) (x8 : Int32) (M : Ms) (K199 : Int32 → Int32 → Int32 → Ms → Option (Int32 × Ms)) (K261 : Int32 → Int32 → Ms → Option (Int32 × Ms)) : Option (Int32 × Ms) :=
  bn (f_X8_power x4 x5) fun r205 =>
  if r205 ≤ x8 then (
    K261 x6 x7 M
  ) else (
    bn (f_X8_leastBy x8 x4 x5 M) fun r218 =>
    if r218.1 ≤ x6 then (
      f_X8_will_237 x3 x4 x5 x6 x8 r218.1 x7 r218.2 K199
    ) else (
      f_X8_will_237 x3 x4 x5 x6 x8 r218.1 x8 r218.2 K199
    )
  )
set_option maxHeartbeats 4000000 in
set_option maxRecDepth 100000 in
theorem b_X8_will_199 {p : Program} {l : Launch} {e : Env} {s : State} {m : MethodId} {args : Array Value} {below : List Frame} {meth : Method} {c : Code} {Q : State → Prop} {dC : Nat → ClassId} {dI : Nat → Nat → Nat} {cs : Nat → ClassId} {A : Nat → Prop} {a : Nat → Nat} {res : Int32 × Ms} (C : CallFix p m c cX8_will 10 s args wsX8_will RX8) (G : GE dC dI cs s) (hA : ∀ q : Nat, s.heap.size ≤ q → A q) (hR : RTi p l e ({ frames := 2, cells := 0, slots := 0, locals := 47 }) s m args below meth c cX8_will Q (dC, dI) A (fun u : Ms => (wM cs a u)) res) (x3 : Int32) (x4 : Int32) (x5 : Int32) (x6 : Int32) (x7 : Int32) (x8 : Int32) (M : Ms) {K199 : Int32 → Int32 → Int32 → Ms → Option (Int32 × Ms)} {K261 : Int32 → Int32 → Ms → Option (Int32 × Ms)} (hK199 : ∀ (x6 : Int32) (x7 : Int32) (x8 : Int32) (M : Ms) (H : Heap) (locs : List Loc) (ls : Array Slot), lv_has ls 10 [(0, .ref (a 0)), (3, .int (x3)), (4, .int (x4)), (5, .int (x5)), (6, .int (x6)), (7, .int (x7)), (8, .int (x8))] → va_P (dC, dI) vwCl (wM cs a M) H → va_D A (wM cs a M) → va_S A s.heap H locs → K199 x6 x7 x8 M = some res → W p l e ({ frames := 2, cells := 0, slots := 0, locals := 47 }) s m args below meth c H locs 0 0 Q (F0 m 199 ls [])) (hK261 : ∀ (x6 : Int32) (x7 : Int32) (M : Ms) (H : Heap) (locs : List Loc) (ls : Array Slot), lv_has ls 10 [(0, .ref (a 0)), (3, .int (x3)), (4, .int (x4)), (5, .int (x5)), (6, .int (x6)), (7, .int (x7))] → va_P (dC, dI) vwCl (wM cs a M) H → va_D A (wM cs a M) → va_S A s.heap H locs → K261 x6 x7 M = some res → W p l e ({ frames := 2, cells := 0, slots := 0, locals := 47 }) s m args below meth c H locs 0 0 Q (F0 m 261 ls [])) (H : Heap) (locs : List Loc) (ls : Array Slot) (hl : lv_has ls 10 [(0, .ref (a 0)), (3, .int (x3)), (4, .int (x4)), (5, .int (x5)), (6, .int (x6)), (7, .int (x7)), (8, .int (x8))]) (hP : va_P (dC, dI) vwCl (wM cs a M) H) (hD : va_D A (wM cs a M)) (hS : va_S A s.heap H locs) (hf : f_X8_will_199 x3 x4 x5 x6 x7 x8 M K199 K261 = some res) : W p l e ({ frames := 2, cells := 0, slots := 0, locals := 47 }) s m args below meth c H locs 0 0 Q (F0 m 199 ls []) := by
  obtain ⟨hx, hb, hml, hown, hts⟩ := id C
  obtain ⟨hK, hN⟩ := id G
  unfold f_X8_will_199 at hf
  refine lv_iload hx hb dX8_will_199 (lv_at hl 6 rfl) ?_
  refine lv_iload hx hb dX8_will_201 (lv_at hl 2 rfl) ?_
  refine lv_iload hx hb dX8_will_203 (lv_at hl 3 rfl) ?_
  obtain ⟨r205, hr205, hf⟩ := bn_e hf
  have hPc := hP.sub (ws' := ([] : va_W)) [] rfl
  refine vp_callSi (W.runS (As := [.int (x4), .int (x5)]) (rest := [.int (x8)]) C (c_X8_power l dC dI cs x4 x5 r205 hr205) (va_cwS 2 hts gX8_will_X8_power rfl rfl rfl (by decide +kernel) ⟨Nat.le_of_ble_eq_true rfl, Nat.le_of_ble_eq_true rfl⟩) ⟨(fun a U g mk q => ⟨q.1, q.2.1, GE.calling q.2.2⟩), (fun U hU hW => ⟨rfl, by rw [hU]; exact hPc, GE.warm hW G⟩)⟩ rfl rfl hl.1 rfl (lv_room (Nat.le_of_ble_eq_true rfl)) dX8_will_205 ⟨Nat.le_of_ble_eq_true rfl, Nat.le_of_ble_eq_true rfl⟩) (fun qr205 hqr205 => ?_)
  obtain rfl := hqr205.symm
  refine lv_icmp_ge (tgt := 261) hx hb dX8_will_208 (by decide) (fun c1 => ?_) (fun c1 => ?_)
  · replace hf := it_t c1 hf
    exact hK261 x6 x7 M _ _ _ (lv_sub hl [0, 1, 2, 3, 4, 5] rfl) hP hD hS hf
  · replace hf := it_f c1 hf
    refine lv_aload_n hx hb dX8_will_211 rfl (lv_at hl 0 rfl) ?_
    refine lv_iload hx hb dX8_will_212 (lv_at hl 6 rfl) ?_
    refine lv_iload hx hb dX8_will_214 (lv_at hl 2 rfl) ?_
    refine lv_iload hx hb dX8_will_216 (lv_at hl 3 rfl) ?_
    obtain ⟨r218, hr218, hf⟩ := bn_e hf
    have hPc := hP.sub (ws' := (wM cs a M)) [0, 1, 2, 3, 4, 5, 6, 7, 8, 9, 10, 11] rfl
    have hDc := hD.sub (ws' := (wM cs a M)) [0, 1, 2, 3, 4, 5, 6, 7, 8, 9, 10, 11] (by decide) rfl
    have hFc := va_free (wc := (wM cs a M)) hD hS hA [0, 1, 2, 3, 4, 5, 6, 7, 8, 9, 10, 11] rfl
    refine va_calli (va_runV (As := [.int (x8), .int (x4), .int (x5)]) (rest := []) C (c_X8_leastBy l dC dI cs a H.size M x8 x4 x5 r218 hr218) (cwV 3 hts gX8_will_X8_leastBy rfl rfl rfl (by decide +kernel) ⟨Nat.le_of_ble_eq_true rfl, Nat.le_of_ble_eq_true rfl⟩) ⟨(fun a U g mk q => ⟨q.1, q.2.1, q.2.2.1, GE.calling q.2.2.2.1, q.2.2.2.2⟩), va_recv hK hPc (ci := 8) (q0 := 0) rfl rfl, (fun U hU hW => ⟨rfl, by rw [hU], by rw [hU]; exact hPc, GE.warm hW G, hDc.weaken (fun _ _ _ _ => trivial)⟩)⟩ rfl rfl hl.1 rfl (lv_room (Nat.le_of_ble_eq_true rfl)) dX8_will_218 ⟨Nat.le_of_ble_eq_true rfl, Nat.le_of_ble_eq_true rfl⟩) hS (fun q _ h => hFc q h) hFc (fun q u t H1 locs ht hvm hw hB hz1 hk1 hS => ?_)
    obtain ⟨rfl, rfl⟩ := hw
    obtain ⟨hP1, hD1⟩ := hB
    rw [ht] at hP1
    obtain ⟨hP, hD⟩ := va_join (wr := []) (w1 := (wM cs a r218.2)) hP hD [0, 1, 2, 3, 4, 5, 6, 7, 8, 9, 10, 11] [] rfl rfl (by decide) (by decide) hk1 hFc hP1 hD1
    generalize H1 = H at hP hS ⊢
    have hP := hP.sub (ws' := (wM cs a r218.2)) [0, 1, 2, 3, 4, 5, 6, 7, 8, 9, 10, 11] rfl
    have hD := hD.sub (ws' := (wM cs a r218.2)) [0, 1, 2, 3, 4, 5, 6, 7, 8, 9, 10, 11] (by decide) rfl
    refine lv_istore (lv' := [(9, .int (r218.1)), (0, .ref (a 0)), (3, .int (x3)), (4, .int (x4)), (5, .int (x5)), (6, .int (x6)), (7, .int (x7)), (8, .int (x8))]) hx hb dX8_will_221 hl (by decide) rfl (fun ls hl => ?_)
    refine lv_iload hx hb dX8_will_223 (lv_at hl 0 rfl) ?_
    refine lv_iload hx hb dX8_will_225 (lv_at hl 5 rfl) ?_
    refine lv_icmp_le (tgt := 235) hx hb dX8_will_227 (by decide) (fun c2 => ?_) (fun c2 => ?_)
    · replace hf := it_t c2 hf
      refine lv_iload hx hb dX8_will_235 (lv_at hl 6 rfl) ?_
      exact b_X8_will_237 C G hA hR x3 x4 x5 x6 x8 r218.1 x7 r218.2 hK199 _ _ _ (lv_sub hl [1, 2, 3, 4, 5, 7, 0] rfl) hP hD hS hf
    · replace hf := it_f c2 hf
      refine lv_iload hx hb dX8_will_230 (lv_at hl 7 rfl) ?_
      refine lv_goto (tgt := 237) hx hb dX8_will_232 (by decide) ?_
      exact b_X8_will_237 C G hA hR x3 x4 x5 x6 x8 r218.1 x8 r218.2 hK199 _ _ _ (lv_sub hl [1, 2, 3, 4, 5, 7, 0] rfl) hP hD hS hf
def l_X8_will_199 (x3 : Int32) (x4 : Int32) (x5 : Int32) (K261 : Int32 → Int32 → Ms → Option (Int32 × Ms)) (n : Nat) (x6 : Int32) (x7 : Int32) (x8 : Int32) (M : Ms) : Option (Int32 × Ms) := itr (fun (k : Int32 × Int32 × Int32 × Ms → Option (Int32 × Ms)) (z : Int32 × Int32 × Int32 × Ms) => f_X8_will_199 x3 x4 x5 z.1 z.2.1 z.2.2.1 z.2.2.2 (fun x6 x7 x8 M => k (x6, x7, x8, M)) K261) n (x6, x7, x8, M)
set_option maxHeartbeats 4000000 in
set_option maxRecDepth 100000 in
theorem w_X8_will_199 {p : Program} {l : Launch} {e : Env} {s : State} {m : MethodId} {args : Array Value} {below : List Frame} {meth : Method} {c : Code} {Q : State → Prop} {dC : Nat → ClassId} {dI : Nat → Nat → Nat} {cs : Nat → ClassId} {A : Nat → Prop} {a : Nat → Nat} {res : Int32 × Ms} (C : CallFix p m c cX8_will 10 s args wsX8_will RX8) (G : GE dC dI cs s) (hA : ∀ q : Nat, s.heap.size ≤ q → A q) (hR : RTi p l e ({ frames := 2, cells := 0, slots := 0, locals := 47 }) s m args below meth c cX8_will Q (dC, dI) A (fun u : Ms => (wM cs a u)) res) (x3 : Int32) (x4 : Int32) (x5 : Int32) {K261 : Int32 → Int32 → Ms → Option (Int32 × Ms)} (hK261 : ∀ (x6 : Int32) (x7 : Int32) (M : Ms) (H : Heap) (locs : List Loc) (ls : Array Slot), lv_has ls 10 [(0, .ref (a 0)), (3, .int (x3)), (4, .int (x4)), (5, .int (x5)), (6, .int (x6)), (7, .int (x7))] → va_P (dC, dI) vwCl (wM cs a M) H → va_D A (wM cs a M) → va_S A s.heap H locs → K261 x6 x7 M = some res → W p l e ({ frames := 2, cells := 0, slots := 0, locals := 47 }) s m args below meth c H locs 0 0 Q (F0 m 261 ls [])) : ∀ (n : Nat) (x6 : Int32) (x7 : Int32) (x8 : Int32) (M : Ms) (H : Heap) (locs : List Loc) (ls : Array Slot), lv_has ls 10 [(0, .ref (a 0)), (3, .int (x3)), (4, .int (x4)), (5, .int (x5)), (6, .int (x6)), (7, .int (x7)), (8, .int (x8))] → va_P (dC, dI) vwCl (wM cs a M) H → va_D A (wM cs a M) → va_S A s.heap H locs → l_X8_will_199 x3 x4 x5 K261 n x6 x7 x8 M = some res → W p l e ({ frames := 2, cells := 0, slots := 0, locals := 47 }) s m args below meth c H locs 0 0 Q (F0 m 199 ls []) := by
  intro n
  induction n with
  | zero => intro x6 x7 x8 M H locs ls hl hP hD hS hf; exact absurd hf (by simp [l_X8_will_199, itr])
  | succ n ih =>
    intro x6 x7 x8 M H locs ls hl hP hD hS hf
    replace hf : f_X8_will_199 x3 x4 x5 x6 x7 x8 M (fun x6 x7 x8 M => l_X8_will_199 x3 x4 x5 K261 n x6 x7 x8 M) K261 = some res := by rw [← hf]; unfold l_X8_will_199; rw [itr_s]
    exact b_X8_will_199 C G hA hR x3 x4 x5 x6 x7 x8 M (K199 := fun x6 x7 x8 M => l_X8_will_199 x3 x4 x5 K261 n x6 x7 x8 M) (fun x6 x7 x8 M H locs ls hl hP hD hS hf => ih x6 x7 x8 M H locs ls hl hP hD hS hf) hK261 H locs ls hl hP hD hS hf
def f_X8_will_261 (x3 : Int32) (x4 : Int32) (x5 : Int32) (x6 : Int32) (x7 : Int32) (M : Ms)  : Option (Int32 × Ms) :=
  bn (f_X8_leastBy x7 x4 x5 M) fun r268 =>
  if x3 = (-1 : Int32) then (
    some (x6, r268.2)
  ) else (
    if x5 ≤ x3 then (
      some ((-5 : Int32), r268.2)
    ) else (
      gi (x3) 8 <|
      gi (((r268.2.2.2 10) (x3).toNatClampNeg)) 6 <|
      some (((r268.2.2.2 7) (((r268.2.2.2 10) (x3).toNatClampNeg)).toNatClampNeg), r268.2)
    )
  )
set_option maxHeartbeats 4000000 in
set_option maxRecDepth 100000 in
theorem b_X8_will_261 {p : Program} {l : Launch} {e : Env} {s : State} {m : MethodId} {args : Array Value} {below : List Frame} {meth : Method} {c : Code} {Q : State → Prop} {dC : Nat → ClassId} {dI : Nat → Nat → Nat} {cs : Nat → ClassId} {A : Nat → Prop} {a : Nat → Nat} {res : Int32 × Ms} (C : CallFix p m c cX8_will 10 s args wsX8_will RX8) (G : GE dC dI cs s) (hA : ∀ q : Nat, s.heap.size ≤ q → A q) (hR : RTi p l e ({ frames := 2, cells := 0, slots := 0, locals := 47 }) s m args below meth c cX8_will Q (dC, dI) A (fun u : Ms => (wM cs a u)) res) (x3 : Int32) (x4 : Int32) (x5 : Int32) (x6 : Int32) (x7 : Int32) (M : Ms)   (H : Heap) (locs : List Loc) (ls : Array Slot) (hl : lv_has ls 10 [(0, .ref (a 0)), (3, .int (x3)), (4, .int (x4)), (5, .int (x5)), (6, .int (x6)), (7, .int (x7))]) (hP : va_P (dC, dI) vwCl (wM cs a M) H) (hD : va_D A (wM cs a M)) (hS : va_S A s.heap H locs) (hf : f_X8_will_261 x3 x4 x5 x6 x7 M = some res) : W p l e ({ frames := 2, cells := 0, slots := 0, locals := 47 }) s m args below meth c H locs 0 0 Q (F0 m 261 ls []) := by
  obtain ⟨hx, hb, hml, hown, hts⟩ := id C
  obtain ⟨hK, hN⟩ := id G
  unfold f_X8_will_261 at hf
  refine lv_aload_n hx hb dX8_will_261 rfl (lv_at hl 0 rfl) ?_
  refine lv_iload hx hb dX8_will_262 (lv_at hl 5 rfl) ?_
  refine lv_iload hx hb dX8_will_264 (lv_at hl 2 rfl) ?_
  refine lv_iload hx hb dX8_will_266 (lv_at hl 3 rfl) ?_
  obtain ⟨r268, hr268, hf⟩ := bn_e hf
  have hPc := hP.sub (ws' := (wM cs a M)) [0, 1, 2, 3, 4, 5, 6, 7, 8, 9, 10, 11] rfl
  have hDc := hD.sub (ws' := (wM cs a M)) [0, 1, 2, 3, 4, 5, 6, 7, 8, 9, 10, 11] (by decide) rfl
  have hFc := va_free (wc := (wM cs a M)) hD hS hA [0, 1, 2, 3, 4, 5, 6, 7, 8, 9, 10, 11] rfl
  refine va_calli (va_runV (As := [.int (x7), .int (x4), .int (x5)]) (rest := []) C (c_X8_leastBy l dC dI cs a H.size M x7 x4 x5 r268 hr268) (cwV 3 hts gX8_will_X8_leastBy rfl rfl rfl (by decide +kernel) ⟨Nat.le_of_ble_eq_true rfl, Nat.le_of_ble_eq_true rfl⟩) ⟨(fun a U g mk q => ⟨q.1, q.2.1, q.2.2.1, GE.calling q.2.2.2.1, q.2.2.2.2⟩), va_recv hK hPc (ci := 8) (q0 := 0) rfl rfl, (fun U hU hW => ⟨rfl, by rw [hU], by rw [hU]; exact hPc, GE.warm hW G, hDc.weaken (fun _ _ _ _ => trivial)⟩)⟩ rfl rfl hl.1 rfl (lv_room (Nat.le_of_ble_eq_true rfl)) dX8_will_268 ⟨Nat.le_of_ble_eq_true rfl, Nat.le_of_ble_eq_true rfl⟩) hS (fun q _ h => hFc q h) hFc (fun q u t H1 locs ht hvm hw hB hz1 hk1 hS => ?_)
  obtain ⟨rfl, rfl⟩ := hw
  obtain ⟨hP1, hD1⟩ := hB
  rw [ht] at hP1
  obtain ⟨hP, hD⟩ := va_join (wr := []) (w1 := (wM cs a r268.2)) hP hD [0, 1, 2, 3, 4, 5, 6, 7, 8, 9, 10, 11] [] rfl rfl (by decide) (by decide) hk1 hFc hP1 hD1
  generalize H1 = H at hP hS ⊢
  have hP := hP.sub (ws' := (wM cs a r268.2)) [0, 1, 2, 3, 4, 5, 6, 7, 8, 9, 10, 11] rfl
  have hD := hD.sub (ws' := (wM cs a r268.2)) [0, 1, 2, 3, 4, 5, 6, 7, 8, 9, 10, 11] (by decide) rfl
  refine lv_pop hx hb dX8_will_271 rfl ?_
  refine lv_iload_n hx hb dX8_will_272 rfl (lv_at hl 1 rfl) ?_
  refine lv_iconst (v := -1) hx hb dX8_will_273 (by decide) ?_
  refine lv_icmp_ne (tgt := 282) hx hb dX8_will_274 (by decide) (fun c1 => ?_) (fun c1 => ?_)
  · replace hf := it_f c1 hf
    refine lv_iload_n hx hb dX8_will_282 rfl (lv_at hl 1 rfl) ?_
    refine lv_iload hx hb dX8_will_283 (lv_at hl 3 rfl) ?_
    refine lv_icmp_ge (tgt := 302) hx hb dX8_will_285 (by decide) (fun c2 => ?_) (fun c2 => ?_)
    · replace hf := it_t c2 hf
      refine lv_bipush (v := -5) hx hb dX8_will_302 (by decide) ?_
      exact hR _ _ _ _ _ _ dX8_will_304 hf hP hD hS
    · replace hf := it_f c2 hf
      refine lv_aload_n hx hb dX8_will_288 rfl (lv_at hl 0 rfl) ?_
      refine va_get (D := (dC, dI)) (ci := 8) (v := .ref (a 8)) (C := RX8) (T := TX8) (N := 20) hx hb hts in_X8_will_X8 hown hK hP 0 rfl rfl 16 (by decide) (hts (.fieldLink RX8 36 "BackLoansModel" "heir" "[I") (by decide +kernel)) (fun _ h9 => h9) rfl dX8_will_289 ?_
      refine lv_aload_n hx hb dX8_will_292 rfl (lv_at hl 0 rfl) ?_
      refine va_get (D := (dC, dI)) (ci := 8) (v := .ref (a 11)) (C := RX8) (T := TX8) (N := 20) hx hb hts in_X8_will_X8 hown hK hP 0 rfl rfl 19 (by decide) (hts (.fieldLink RX8 45 "BackLoansModel" "chosen" "[I") (by decide +kernel)) (fun _ h9 => h9) rfl dX8_will_293 ?_
      refine lv_iload_n hx hb dX8_will_296 rfl (lv_at hl 1 rfl) ?_
      obtain ⟨hi3, hf⟩ := gi_e hf
      refine va_iald hx hb hK hP 11 0 rfl rfl hi3 dX8_will_297 ?_
      obtain ⟨hi4, hf⟩ := gi_e hf
      refine va_iald hx hb hK hP 8 0 rfl rfl hi4 dX8_will_298 ?_
      refine lv_goto (tgt := 304) hx hb dX8_will_299 (by decide) ?_
      exact hR _ _ _ _ _ _ dX8_will_304 hf hP hD hS
  · replace hf := it_t c1 hf
    refine lv_iload hx hb dX8_will_277 (lv_at hl 4 rfl) ?_
    refine lv_goto (tgt := 304) hx hb dX8_will_279 (by decide) ?_
    exact hR _ _ _ _ _ _ dX8_will_304 hf hP hD hS
def f_X8_will_190 (x3 : Int32) (x4 : Int32) (x5 : Int32) (M : Ms)  : Option (Int32 × Ms) :=
  lett (-1 : Int32) fun x6_191 =>
  lett (0 : Int32) fun x7_194 =>
  lett (0 : Int32) fun x8_197 =>
  l_X8_will_199 x3 x4 x5 (fun x6 x7 Mz => f_X8_will_261 x3 x4 x5 x6 x7 Mz) FU x6_191 x7_194 x8_197 M
set_option maxHeartbeats 4000000 in
set_option maxRecDepth 100000 in
theorem b_X8_will_190 {p : Program} {l : Launch} {e : Env} {s : State} {m : MethodId} {args : Array Value} {below : List Frame} {meth : Method} {c : Code} {Q : State → Prop} {dC : Nat → ClassId} {dI : Nat → Nat → Nat} {cs : Nat → ClassId} {A : Nat → Prop} {a : Nat → Nat} {res : Int32 × Ms} (C : CallFix p m c cX8_will 10 s args wsX8_will RX8) (G : GE dC dI cs s) (hA : ∀ q : Nat, s.heap.size ≤ q → A q) (hR : RTi p l e ({ frames := 2, cells := 0, slots := 0, locals := 47 }) s m args below meth c cX8_will Q (dC, dI) A (fun u : Ms => (wM cs a u)) res) (x3 : Int32) (x4 : Int32) (x5 : Int32) (M : Ms)   (H : Heap) (locs : List Loc) (ls : Array Slot) (hl : lv_has ls 10 [(0, .ref (a 0)), (3, .int (x3)), (4, .int (x4)), (5, .int (x5))]) (hP : va_P (dC, dI) vwCl (wM cs a M) H) (hD : va_D A (wM cs a M)) (hS : va_S A s.heap H locs) (hf : f_X8_will_190 x3 x4 x5 M = some res) : W p l e ({ frames := 2, cells := 0, slots := 0, locals := 47 }) s m args below meth c H locs 0 0 Q (F0 m 190 ls []) := by
  obtain ⟨hx, hb, hml, hown, hts⟩ := id C
  obtain ⟨hK, hN⟩ := id G
  unfold f_X8_will_190 at hf
  refine lv_iconst (v := -1) hx hb dX8_will_190 (by decide) ?_
  refine lv_topi (fun x6_191 ex6_191 => ?_)
  replace hf := lett_s ex6_191 hf
  refine lv_istore (lv' := [(6, .int (x6_191)), (0, .ref (a 0)), (3, .int (x3)), (4, .int (x4)), (5, .int (x5))]) hx hb dX8_will_191 hl (by decide) rfl (fun ls hl => ?_)
  refine lv_iconst (v := 0) hx hb dX8_will_193 (by decide) ?_
  refine lv_topi (fun x7_194 ex7_194 => ?_)
  replace hf := lett_s ex7_194 hf
  refine lv_istore (lv' := [(7, .int (x7_194)), (6, .int (x6_191)), (0, .ref (a 0)), (3, .int (x3)), (4, .int (x4)), (5, .int (x5))]) hx hb dX8_will_194 hl (by decide) rfl (fun ls hl => ?_)
  refine lv_iconst (v := 0) hx hb dX8_will_196 (by decide) ?_
  refine lv_topi (fun x8_197 ex8_197 => ?_)
  replace hf := lett_s ex8_197 hf
  refine lv_istore (lv' := [(8, .int (x8_197)), (7, .int (x7_194)), (6, .int (x6_191)), (0, .ref (a 0)), (3, .int (x3)), (4, .int (x4)), (5, .int (x5))]) hx hb dX8_will_197 hl (by decide) rfl (fun ls hl => ?_)
  exact w_X8_will_199 C G hA hR x3 x4 x5 (fun x6 x7 Mz H locs ls hl hP hD hS hf => b_X8_will_261 C G hA hR x3 x4 x5 x6 x7 Mz _ _ _ hl hP hD hS hf) FU x6_191 x7_194 x8_197 M _ _ _ (lv_sub hl [3, 4, 5, 6, 2, 1, 0] rfl) hP hD hS hf
def f_X8_will_106 (x1 : Int32) (x3 : Int32) (x4 : Int32) (M : Ms)  : Option (Int32 × Ms) :=
  lett (0 : Int32) fun x5_107 =>
  lett (0 : Int32) fun x6_110 =>
  l_X8_will_112 x1 x3 x4 (fun x5 Mz => f_X8_will_190 x3 x4 x5 Mz) FU x5_107 x6_110 M
set_option maxHeartbeats 4000000 in
set_option maxRecDepth 100000 in
theorem b_X8_will_106 {p : Program} {l : Launch} {e : Env} {s : State} {m : MethodId} {args : Array Value} {below : List Frame} {meth : Method} {c : Code} {Q : State → Prop} {dC : Nat → ClassId} {dI : Nat → Nat → Nat} {cs : Nat → ClassId} {A : Nat → Prop} {a : Nat → Nat} {res : Int32 × Ms} (C : CallFix p m c cX8_will 10 s args wsX8_will RX8) (G : GE dC dI cs s) (hA : ∀ q : Nat, s.heap.size ≤ q → A q) (hR : RTi p l e ({ frames := 2, cells := 0, slots := 0, locals := 47 }) s m args below meth c cX8_will Q (dC, dI) A (fun u : Ms => (wM cs a u)) res) (x1 : Int32) (x3 : Int32) (x4 : Int32) (M : Ms)   (H : Heap) (locs : List Loc) (ls : Array Slot) (hl : lv_has ls 10 [(0, .ref (a 0)), (1, .int (x1)), (3, .int (x3)), (4, .int (x4))]) (hP : va_P (dC, dI) vwCl (wM cs a M) H) (hD : va_D A (wM cs a M)) (hS : va_S A s.heap H locs) (hf : f_X8_will_106 x1 x3 x4 M = some res) : W p l e ({ frames := 2, cells := 0, slots := 0, locals := 47 }) s m args below meth c H locs 0 0 Q (F0 m 106 ls []) := by
  obtain ⟨hx, hb, hml, hown, hts⟩ := id C
  obtain ⟨hK, hN⟩ := id G
  unfold f_X8_will_106 at hf
  refine lv_iconst (v := 0) hx hb dX8_will_106 (by decide) ?_
  refine lv_topi (fun x5_107 ex5_107 => ?_)
  replace hf := lett_s ex5_107 hf
  refine lv_istore (lv' := [(5, .int (x5_107)), (0, .ref (a 0)), (1, .int (x1)), (3, .int (x3)), (4, .int (x4))]) hx hb dX8_will_107 hl (by decide) rfl (fun ls hl => ?_)
  refine lv_iconst (v := 0) hx hb dX8_will_109 (by decide) ?_
  refine lv_topi (fun x6_110 ex6_110 => ?_)
  replace hf := lett_s ex6_110 hf
  refine lv_istore (lv' := [(6, .int (x6_110)), (5, .int (x5_107)), (0, .ref (a 0)), (1, .int (x1)), (3, .int (x3)), (4, .int (x4))]) hx hb dX8_will_110 hl (by decide) rfl (fun ls hl => ?_)
  exact w_X8_will_112 C G hA hR x1 x3 x4 (fun x5 Mz H locs ls hl hP hD hS hf => b_X8_will_190 C G hA hR x3 x4 x5 Mz _ _ _ hl hP hD hS hf) FU x5_107 x6_110 M _ _ _ (lv_sub hl [2, 3, 4, 5, 1, 0] rfl) hP hD hS hf
def f_X8_will (x1 : Int32) (x2 : Int32) (x3 : Int32) (M : Ms) : Option (Int32 × Ms) :=
  bn (f_X8_isPerson x1 M) fun r2 =>
  if r2 = 0 then (
    f_X8_will_39 M
  ) else (
    gi ((3 : Int32)) 362 <|
    bn (f_X8_in x2 (0 : Int32) (((1 : Int32) <<< (((M.2.2 0) ((3 : Int32)).toNatClampNeg) &&& 31)) - (1 : Int32))) fun r20 =>
    if r20 = 0 then (
      f_X8_will_39 M
    ) else (
      bn (f_X8_ones x2) fun r27 =>
      if (3 : Int32) < r27 then (
        f_X8_will_39 M
      ) else (
        if (-1 : Int32) ≤ x3 then (
          if x2 = 0 then (
            some ((-1 : Int32), M)
          ) else (
            if ((x2 >>> (x1 &&& 31)) &&& (1 : Int32)) = (1 : Int32) then (
              some ((-1 : Int32), M)
            ) else (
              lett (0 : Int32) fun x4_62 =>
              lett (0 : Int32) fun x5_65 =>
              l_X8_will_67 x1 x2 x3 (fun x4 Mz => f_X8_will_106 x1 x3 x4 Mz) FU x4_62 x5_65 M
            )
          )
        ) else (
          f_X8_will_39 M
        )
      )
    )
  )
set_option maxHeartbeats 4000000 in
set_option maxRecDepth 100000 in
theorem c_X8_will (l : Launch) (dC : Nat → ClassId) (dI : Nat → Nat → Nat) (cs : Nat → ClassId) (a : Nat → Nat) (sz : Nat) (M : Ms) (x1 : Int32) (x2 : Int32) (x3 : Int32) (res : Int32 × Ms) (hf : f_X8_will x1 x2 x3 M = some res) : Met l yX8_will wsX8_will ({ frames := 2, cells := 0, slots := 0, locals := 47 }) (va_Pc [.ref (a 0), .int (x1), .int (x2), .int (x3)] (fun U => U.heap.size = sz ∧ va_P (dC, dI) vwCl (wM cs a M) U.heap ∧ GE dC dI cs U ∧ va_D (fun _ => True) (wM cs a M))) (va_Qi (fun r (u : Ms) => r = res.1 ∧ u = res.2) (fun u t => va_P (dC, dI) vwCl ((fun u : Ms => (wM cs a u)) u) t.heap ∧ va_D (va_A (wM cs a M) sz) ((fun u : Ms => (wM cs a u)) u)) (va_A (wM cs a M) sz)) 0 0 (va_A (wM cs a M) sz) := by
  refine Met.ofW (cc := cX8_will) (maxL := 10) (ret := (some .int)) (by decide) rfl ?_
  intro p e s m args below meth c s₁ Bd hml hv
  obtain ⟨rfl, hsz, hP, G, hD0⟩ := hv
  have hts := atoms_spec (ws := wsX8_will) Bd.pre
  have hown : s.vm.findClass RX8 = some m.cls := findClass_of_methodNamed Bd.named
  have hlocks := Bd.notSynchronized
  have hx := Bd.exec
  have hb := Bd.bytes
  have hr := Bd.returns
  have C : CallFix p m c cX8_will 10 s _ wsX8_will RX8 := ⟨hx, hb, hml, hown, hts⟩
  obtain ⟨hK, hN⟩ := id G
  subst hsz
  have hD := hD0.self (sz := s.heap.size)
  generalize hAe : va_A (wM cs a M) s.heap.size = A at hD ⊢
  have hA : ∀ q : Nat, s.heap.size ≤ q → A q := fun q h => by rw [← hAe]; exact Or.inr h
  have hS : va_S A s.heap s.heap [] := va_S.rf
  have hR : RTi p l e ({ frames := 2, cells := 0, slots := 0, locals := 47 }) s m ([.ref (a 0), .int (x1), .int (x2), .int (x3)] : List Value).toArray below meth c cX8_will (MQ below (va_Qi (fun r (u : Ms) => r = res.1 ∧ u = res.2) (fun u t => va_P (dC, dI) vwCl ((fun u : Ms => (wM cs a u)) u) t.heap ∧ va_D A ((fun u : Ms => (wM cs a u)) u)) A) ([.ref (a 0), .int (x1), .int (x2), .int (x3)] : List Value).toArray s 0 0 A) (dC, dI) A (fun u : Ms => (wM cs a u)) res := fun H locs pc ls r u dd h hP hD hS => W.iret hx hb hr (fun t ht hW => ⟨⟨r, u, rfl, by cases h; exact ⟨rfl, rfl⟩, by rw [ht]; exact hP, hD⟩, hS.F ht⟩) hS.2.2 dd
  have hl := lv_entry ([.ref (a 0), .int (x1), .int (x2), .int (x3)]) (n := 10) (Nat.le_of_ble_eq_true rfl)
  rw [lg_entry_eq]
  generalize (lg_sl ([.ref (a 0), .int (x1), .int (x2), .int (x3)]) ++ List.replicate (10 - (lg_sl ([.ref (a 0), .int (x1), .int (x2), .int (x3)])).length) Slot.unset).toArray = ls at hl ⊢
  have hl : lv_has ls 10 [(0, .ref (a 0)), (1, .int (x1)), (2, .int (x2)), (3, .int (x3))] := hl
  unfold f_X8_will at hf
  refine lv_aload_n hx hb dX8_will_0 rfl (lv_at hl 0 rfl) ?_
  refine lv_iload_n hx hb dX8_will_1 rfl (lv_at hl 1 rfl) ?_
  obtain ⟨r2, hr2, hf⟩ := bn_e hf
  have hPc := hP.sub (ws' := (wM cs a M)) [0, 1, 2, 3, 4, 5, 6, 7, 8, 9, 10, 11] rfl
  refine vp_callSi (W.runV (As := [.int (x1)]) (rest := []) C (c_X8_isPerson l dC dI cs a M x1 r2 hr2) (cwV 1 hts gX8_will_X8_isPerson rfl rfl rfl (by decide +kernel) ⟨Nat.le_of_ble_eq_true rfl, Nat.le_of_ble_eq_true rfl⟩) ⟨(fun a U g mk q => ⟨q.1, q.2.1, GE.calling q.2.2⟩), va_recv hK hPc (ci := 8) (q0 := 0) rfl rfl, (fun U hU hW => ⟨rfl, by rw [hU]; exact hPc, GE.warm hW G⟩)⟩ rfl rfl hl.1 rfl (lv_room (Nat.le_of_ble_eq_true rfl)) dX8_will_2 ⟨Nat.le_of_ble_eq_true rfl, Nat.le_of_ble_eq_true rfl⟩) (fun qr2 hqr2 => ?_)
  obtain ⟨hqr2, hnr2⟩ := hqr2
  obtain rfl := hqr2.symm
  refine lv_if_eq (tgt := 39) hx hb dX8_will_5 (by decide) (fun c1 => ?_) (fun c1 => ?_)
  · replace hf := it_t c1 hf
    exact b_X8_will_39 C G hA hR M _ _ _ (lv_sub hl [0] rfl) hP hD hS hf
  · replace hf := it_f c1 hf
    refine lv_iload_n hx hb dX8_will_8 rfl (lv_at hl 2 rfl) ?_
    refine lv_iconst (v := 0) hx hb dX8_will_9 (by decide) ?_
    refine lv_iconst (v := 1) hx hb dX8_will_10 (by decide) ?_
    refine lv_aload_n hx hb dX8_will_11 rfl (lv_at hl 0 rfl) ?_
    refine va_get (D := (dC, dI)) (ci := 8) (v := .ref (a 1)) (C := RX8) (T := TX8) (N := 20) hx hb hts in_X8_will_X8 hown hK hP 0 rfl rfl 0 (by decide) (hts (.fieldLink RX8 7 "BackLoansModel" "now" "[I") (by decide +kernel)) (fun _ h9 => h9) rfl dX8_will_12 ?_
    refine lv_iconst (v := 3) hx hb dX8_will_15 (by decide) ?_
    obtain ⟨hi2, hf⟩ := gi_e hf
    refine va_iald hx hb hK hP 1 0 rfl rfl hi2 dX8_will_16 ?_
    refine lv_ishl hx hb dX8_will_17 ?_
    refine lv_iconst (v := 1) hx hb dX8_will_18 (by decide) ?_
    refine lv_isub hx hb dX8_will_19 ?_
    obtain ⟨r20, hr20, hf⟩ := bn_e hf
    have hPc := hP.sub (ws' := ([] : va_W)) [] rfl
    refine vp_callSi (W.runS (As := [.int (x2), .int ((0 : Int32)), .int ((((1 : Int32) <<< (((M.2.2 0) ((3 : Int32)).toNatClampNeg) &&& 31)) - (1 : Int32)))]) (rest := []) C (c_X8_in l dC dI cs x2 (0 : Int32) (((1 : Int32) <<< (((M.2.2 0) ((3 : Int32)).toNatClampNeg) &&& 31)) - (1 : Int32)) r20 hr20) (va_cwS 3 hts gX8_will_X8_in rfl rfl rfl (by decide +kernel) ⟨Nat.le_of_ble_eq_true rfl, Nat.le_of_ble_eq_true rfl⟩) ⟨(fun a U g mk q => ⟨q.1, q.2.1, GE.calling q.2.2⟩), (fun U hU hW => ⟨rfl, by rw [hU]; exact hPc, GE.warm hW G⟩)⟩ rfl rfl hl.1 rfl (lv_room (Nat.le_of_ble_eq_true rfl)) dX8_will_20 ⟨Nat.le_of_ble_eq_true rfl, Nat.le_of_ble_eq_true rfl⟩) (fun qr20 hqr20 => ?_)
    obtain ⟨hqr20, hnr20⟩ := hqr20
    obtain rfl := hqr20.symm
    refine lv_if_eq (tgt := 39) hx hb dX8_will_23 (by decide) (fun c3 => ?_) (fun c3 => ?_)
    · replace hf := it_t c3 hf
      exact b_X8_will_39 C G hA hR M _ _ _ (lv_sub hl [0] rfl) hP hD hS hf
    · replace hf := it_f c3 hf
      refine lv_iload_n hx hb dX8_will_26 rfl (lv_at hl 2 rfl) ?_
      obtain ⟨r27, hr27, hf⟩ := bn_e hf
      have hPc := hP.sub (ws' := ([] : va_W)) [] rfl
      refine vp_callSi (W.runS (As := [.int (x2)]) (rest := []) C (c_X8_ones l dC dI cs x2 r27 hr27) (va_cwS 1 hts gX8_will_X8_ones rfl rfl rfl (by decide +kernel) ⟨Nat.le_of_ble_eq_true rfl, Nat.le_of_ble_eq_true rfl⟩) ⟨(fun a U g mk q => ⟨q.1, q.2.1, GE.calling q.2.2⟩), (fun U hU hW => ⟨rfl, by rw [hU]; exact hPc, GE.warm hW G⟩)⟩ rfl rfl hl.1 rfl (lv_room (Nat.le_of_ble_eq_true rfl)) dX8_will_27 ⟨Nat.le_of_ble_eq_true rfl, Nat.le_of_ble_eq_true rfl⟩) (fun qr27 hqr27 => ?_)
      obtain rfl := hqr27.symm
      refine lv_iconst (v := 3) hx hb dX8_will_30 (by decide) ?_
      refine lv_icmp_gt (tgt := 39) hx hb dX8_will_31 (by decide) (fun c4 => ?_) (fun c4 => ?_)
      · replace hf := it_t c4 hf
        exact b_X8_will_39 C G hA hR M _ _ _ (lv_sub hl [0] rfl) hP hD hS hf
      · replace hf := it_f c4 hf
        refine lv_iload_n hx hb dX8_will_34 rfl (lv_at hl 3 rfl) ?_
        refine lv_iconst (v := -1) hx hb dX8_will_35 (by decide) ?_
        refine lv_icmp_ge (tgt := 46) hx hb dX8_will_36 (by decide) (fun c5 => ?_) (fun c5 => ?_)
        · replace hf := it_t c5 hf
          refine lv_iload_n hx hb dX8_will_46 rfl (lv_at hl 2 rfl) ?_
          refine lv_if_eq (tgt := 59) hx hb dX8_will_47 (by decide) (fun c6 => ?_) (fun c6 => ?_)
          · replace hf := it_t c6 hf
            refine lv_iconst (v := -1) hx hb dX8_will_59 (by decide) ?_
            exact hR _ _ _ _ _ _ dX8_will_60 hf hP hD hS
          · replace hf := it_f c6 hf
            refine lv_iload_n hx hb dX8_will_50 rfl (lv_at hl 2 rfl) ?_
            refine lv_iload_n hx hb dX8_will_51 rfl (lv_at hl 1 rfl) ?_
            refine lv_ishr hx hb dX8_will_52 ?_
            refine lv_iconst (v := 1) hx hb dX8_will_53 (by decide) ?_
            refine lv_iand hx hb dX8_will_54 ?_
            refine lv_iconst (v := 1) hx hb dX8_will_55 (by decide) ?_
            refine lv_icmp_ne (tgt := 61) hx hb dX8_will_56 (by decide) (fun c7 => ?_) (fun c7 => ?_)
            · replace hf := it_f c7 hf
              refine lv_iconst (v := 0) hx hb dX8_will_61 (by decide) ?_
              refine lv_topi (fun x4_62 ex4_62 => ?_)
              replace hf := lett_s ex4_62 hf
              refine lv_istore (lv' := [(4, .int (x4_62)), (0, .ref (a 0)), (1, .int (x1)), (2, .int (x2)), (3, .int (x3))]) hx hb dX8_will_62 hl (by decide) rfl (fun ls hl => ?_)
              refine lv_iconst (v := 0) hx hb dX8_will_64 (by decide) ?_
              refine lv_topi (fun x5_65 ex5_65 => ?_)
              replace hf := lett_s ex5_65 hf
              refine lv_istore (lv' := [(5, .int (x5_65)), (4, .int (x4_62)), (0, .ref (a 0)), (1, .int (x1)), (2, .int (x2)), (3, .int (x3))]) hx hb dX8_will_65 hl (by decide) rfl (fun ls hl => ?_)
              exact w_X8_will_67 C G hA hR x1 x2 x3 (fun x4 Mz H locs ls hl hP hD hS hf => b_X8_will_106 C G hA hR x1 x3 x4 Mz _ _ _ hl hP hD hS hf) FU x4_62 x5_65 M _ _ _ (lv_sub hl [2, 3, 4, 5, 1, 0] rfl) hP hD hS hf
            · replace hf := it_t c7 hf
              refine lv_iconst (v := -1) hx hb dX8_will_59 (by decide) ?_
              exact hR _ _ _ _ _ _ dX8_will_60 hf hP hD hS
        · replace hf := it_f c5 hf
          exact b_X8_will_39 C G hA hR M _ _ _ (lv_sub hl [0] rfl) hP hD hS hf

theorem in_X8_whom_X8 : ∀ w ∈ wsX80, w ∈ wsX8_whom := by decide +kernel
def f_X8_whom_63 (x2 : Int32) (x4 : Int32) (s0 : Int32) (s1 : Int32) (M : Ms) (K25 : Int32 → Int32 → Option (Int32 × Ms)) : Option (Int32 × Ms) :=
  lett (s0 ||| s1) fun x3_64 =>
  lett (x4 + 1) fun x4_65 =>
  K25 x3_64 x4_65
set_option maxHeartbeats 4000000 in
set_option maxRecDepth 100000 in
theorem b_X8_whom_63 {p : Program} {l : Launch} {e : Env} {s : State} {m : MethodId} {args : Array Value} {below : List Frame} {meth : Method} {c : Code} {Q : State → Prop} {dC : Nat → ClassId} {dI : Nat → Nat → Nat} {cs : Nat → ClassId} {A : Nat → Prop} {a : Nat → Nat} {res : Int32 × Ms} (C : CallFix p m c cX8_whom 7 s args wsX8_whom RX8) (G : GE dC dI cs s) (hA : ∀ q : Nat, s.heap.size ≤ q → A q) (hR : RTi p l e ({ frames := 4, cells := 0, slots := 0, locals := 92 }) s m args below meth c cX8_whom Q (dC, dI) A (fun u : Ms => (wM cs a u)) res) (x2 : Int32) (x4 : Int32) (s0 : Int32) (s1 : Int32) (M : Ms) {K25 : Int32 → Int32 → Option (Int32 × Ms)} (hK25 : ∀ (x3 : Int32) (x4 : Int32) (H : Heap) (locs : List Loc) (ls : Array Slot), lv_has ls 7 [(0, .ref (a 0)), (2, .int (x2)), (3, .int (x3)), (4, .int (x4))] → va_P (dC, dI) vwCl (wM cs a M) H → va_D A (wM cs a M) → va_S A s.heap H locs → K25 x3 x4 = some res → W p l e ({ frames := 4, cells := 0, slots := 0, locals := 92 }) s m args below meth c H locs 0 0 Q (F0 m 25 ls [])) (H : Heap) (locs : List Loc) (ls : Array Slot) (hl : lv_has ls 7 [(0, .ref (a 0)), (2, .int (x2)), (4, .int (x4))]) (hP : va_P (dC, dI) vwCl (wM cs a M) H) (hD : va_D A (wM cs a M)) (hS : va_S A s.heap H locs) (hf : f_X8_whom_63 x2 x4 s0 s1 M K25 = some res) : W p l e ({ frames := 4, cells := 0, slots := 0, locals := 92 }) s m args below meth c H locs 0 0 Q (F0 m 63 ls [.int (s1), .int (s0)]) := by
  obtain ⟨hx, hb, hml, hown, hts⟩ := id C
  obtain ⟨hK, hN⟩ := id G
  unfold f_X8_whom_63 at hf
  refine lv_ior hx hb dX8_whom_63 ?_
  refine lv_topi (fun x3_64 ex3_64 => ?_)
  replace hf := lett_s ex3_64 hf
  refine lv_istore_n (lv' := [(3, .int (x3_64)), (0, .ref (a 0)), (2, .int (x2)), (4, .int (x4))]) hx hb dX8_whom_64 rfl hl (by decide) rfl (fun ls hl => ?_)
  obtain ⟨x4_65, ex4_65⟩ : ∃ y : Int32, y = (x4 + 1) := ⟨_, rfl⟩
  replace hf := lett_s ex4_65 hf
  refine lv_iinc (v := x4_65) (lv' := [(4, .int (x4_65)), (3, .int (x3_64)), (0, .ref (a 0)), (2, .int (x2))]) hx hb dX8_whom_65 hl (k := 3) rfl (by rw [ex4_65]; rfl) (by decide) rfl (fun ls hl => ?_)
  refine lv_goto (tgt := 25) hx hb dX8_whom_68 (by decide) ?_
  exact hK25 x3_64 x4_65 _ _ _ (lv_sub hl [2, 3, 1, 0] rfl) hP hD hS hf
def f_X8_whom_25 (x2 : Int32) (x3 : Int32) (x4 : Int32) (M : Ms) (K25 : Int32 → Int32 → Option (Int32 × Ms)) (K71 : Int32 → Option (Int32 × Ms)) : Option (Int32 × Ms) :=
  gi ((4 : Int32)) 362 <|
  if ((M.2.2 0) ((4 : Int32)).toNatClampNeg) ≤ x4 then (
    K71 x3
  ) else (
    gi ((((26 : Int32) + ((5 : Int32) * x4)) + (3 : Int32))) 362 <|
    if ((M.2.2 1) ((((26 : Int32) + ((5 : Int32) * x4)) + (3 : Int32))).toNatClampNeg) = (1 : Int32) then (
      f_X8_whom_63 x2 x4 x3 ((1 : Int32) <<< (x4 &&& 31)) M K25
    ) else (
      f_X8_whom_63 x2 x4 x3 (0 : Int32) M K25
    )
  )
set_option maxHeartbeats 4000000 in
set_option maxRecDepth 100000 in
theorem b_X8_whom_25 {p : Program} {l : Launch} {e : Env} {s : State} {m : MethodId} {args : Array Value} {below : List Frame} {meth : Method} {c : Code} {Q : State → Prop} {dC : Nat → ClassId} {dI : Nat → Nat → Nat} {cs : Nat → ClassId} {A : Nat → Prop} {a : Nat → Nat} {res : Int32 × Ms} (C : CallFix p m c cX8_whom 7 s args wsX8_whom RX8) (G : GE dC dI cs s) (hA : ∀ q : Nat, s.heap.size ≤ q → A q) (hR : RTi p l e ({ frames := 4, cells := 0, slots := 0, locals := 92 }) s m args below meth c cX8_whom Q (dC, dI) A (fun u : Ms => (wM cs a u)) res) (x2 : Int32) (x3 : Int32) (x4 : Int32) (M : Ms) {K25 : Int32 → Int32 → Option (Int32 × Ms)} {K71 : Int32 → Option (Int32 × Ms)} (hK25 : ∀ (x3 : Int32) (x4 : Int32) (H : Heap) (locs : List Loc) (ls : Array Slot), lv_has ls 7 [(0, .ref (a 0)), (2, .int (x2)), (3, .int (x3)), (4, .int (x4))] → va_P (dC, dI) vwCl (wM cs a M) H → va_D A (wM cs a M) → va_S A s.heap H locs → K25 x3 x4 = some res → W p l e ({ frames := 4, cells := 0, slots := 0, locals := 92 }) s m args below meth c H locs 0 0 Q (F0 m 25 ls [])) (hK71 : ∀ (x3 : Int32) (H : Heap) (locs : List Loc) (ls : Array Slot), lv_has ls 7 [(0, .ref (a 0)), (2, .int (x2)), (3, .int (x3))] → va_P (dC, dI) vwCl (wM cs a M) H → va_D A (wM cs a M) → va_S A s.heap H locs → K71 x3 = some res → W p l e ({ frames := 4, cells := 0, slots := 0, locals := 92 }) s m args below meth c H locs 0 0 Q (F0 m 71 ls [])) (H : Heap) (locs : List Loc) (ls : Array Slot) (hl : lv_has ls 7 [(0, .ref (a 0)), (2, .int (x2)), (3, .int (x3)), (4, .int (x4))]) (hP : va_P (dC, dI) vwCl (wM cs a M) H) (hD : va_D A (wM cs a M)) (hS : va_S A s.heap H locs) (hf : f_X8_whom_25 x2 x3 x4 M K25 K71 = some res) : W p l e ({ frames := 4, cells := 0, slots := 0, locals := 92 }) s m args below meth c H locs 0 0 Q (F0 m 25 ls []) := by
  obtain ⟨hx, hb, hml, hown, hts⟩ := id C
  obtain ⟨hK, hN⟩ := id G
  unfold f_X8_whom_25 at hf
  refine lv_iload hx hb dX8_whom_25 (lv_at hl 3 rfl) ?_
  refine lv_aload_n hx hb dX8_whom_27 rfl (lv_at hl 0 rfl) ?_
  refine va_get (D := (dC, dI)) (ci := 8) (v := .ref (a 1)) (C := RX8) (T := TX8) (N := 20) hx hb hts in_X8_whom_X8 hown hK hP 0 rfl rfl 0 (by decide) (hts (.fieldLink RX8 7 "BackLoansModel" "now" "[I") (by decide +kernel)) (fun _ h9 => h9) rfl dX8_whom_28 ?_
  refine lv_iconst (v := 4) hx hb dX8_whom_31 (by decide) ?_
  obtain ⟨hi1, hf⟩ := gi_e hf
  refine va_iald hx hb hK hP 1 0 rfl rfl hi1 dX8_whom_32 ?_
  refine lv_icmp_ge (tgt := 71) hx hb dX8_whom_33 (by decide) (fun c2 => ?_) (fun c2 => ?_)
  · replace hf := it_t c2 hf
    exact hK71 x3 _ _ _ (lv_sub hl [0, 1, 2] rfl) hP hD hS hf
  · replace hf := it_f c2 hf
    refine lv_iload_n hx hb dX8_whom_36 rfl (lv_at hl 2 rfl) ?_
    refine lv_aload_n hx hb dX8_whom_37 rfl (lv_at hl 0 rfl) ?_
    refine va_get (D := (dC, dI)) (ci := 8) (v := .ref (a 2)) (C := RX8) (T := TX8) (N := 20) hx hb hts in_X8_whom_X8 hown hK hP 0 rfl rfl 1 (by decide) (hts (.fieldLink RX8 13 "BackLoansModel" "tried" "[I") (by decide +kernel)) (fun _ h9 => h9) rfl dX8_whom_38 ?_
    refine lv_bipush (v := 26) hx hb dX8_whom_41 (by decide) ?_
    refine lv_iconst (v := 5) hx hb dX8_whom_43 (by decide) ?_
    refine lv_iload hx hb dX8_whom_44 (lv_at hl 3 rfl) ?_
    refine lv_imul hx hb dX8_whom_46 ?_
    refine lv_iadd hx hb dX8_whom_47 ?_
    refine lv_iconst (v := 3) hx hb dX8_whom_48 (by decide) ?_
    refine lv_iadd hx hb dX8_whom_49 ?_
    obtain ⟨hi3, hf⟩ := gi_e hf
    refine va_iald hx hb hK hP 2 0 rfl rfl hi3 dX8_whom_50 ?_
    refine lv_iconst (v := 1) hx hb dX8_whom_51 (by decide) ?_
    refine lv_icmp_ne (tgt := 62) hx hb dX8_whom_52 (by decide) (fun c4 => ?_) (fun c4 => ?_)
    · replace hf := it_f c4 hf
      refine lv_iconst (v := 0) hx hb dX8_whom_62 (by decide) ?_
      exact b_X8_whom_63 C G hA hR x2 x4 x3 (0 : Int32) M hK25 _ _ _ (lv_sub hl [0, 1, 3] rfl) hP hD hS hf
    · replace hf := it_t c4 hf
      refine lv_iconst (v := 1) hx hb dX8_whom_55 (by decide) ?_
      refine lv_iload hx hb dX8_whom_56 (lv_at hl 3 rfl) ?_
      refine lv_ishl hx hb dX8_whom_58 ?_
      refine lv_goto (tgt := 63) hx hb dX8_whom_59 (by decide) ?_
      exact b_X8_whom_63 C G hA hR x2 x4 x3 ((1 : Int32) <<< (x4 &&& 31)) M hK25 _ _ _ (lv_sub hl [0, 1, 3] rfl) hP hD hS hf
def l_X8_whom_25 (x2 : Int32) (M : Ms) (K71 : Int32 → Option (Int32 × Ms)) (n : Nat) (x3 : Int32) (x4 : Int32) : Option (Int32 × Ms) := itr (fun (k : Int32 × Int32 → Option (Int32 × Ms)) (z : Int32 × Int32) => f_X8_whom_25 x2 z.1 z.2 M (fun x3 x4 => k (x3, x4)) K71) n (x3, x4)
set_option maxHeartbeats 4000000 in
set_option maxRecDepth 100000 in
theorem w_X8_whom_25 {p : Program} {l : Launch} {e : Env} {s : State} {m : MethodId} {args : Array Value} {below : List Frame} {meth : Method} {c : Code} {Q : State → Prop} {dC : Nat → ClassId} {dI : Nat → Nat → Nat} {cs : Nat → ClassId} {A : Nat → Prop} {a : Nat → Nat} {res : Int32 × Ms} (C : CallFix p m c cX8_whom 7 s args wsX8_whom RX8) (G : GE dC dI cs s) (hA : ∀ q : Nat, s.heap.size ≤ q → A q) (hR : RTi p l e ({ frames := 4, cells := 0, slots := 0, locals := 92 }) s m args below meth c cX8_whom Q (dC, dI) A (fun u : Ms => (wM cs a u)) res) (x2 : Int32) (M : Ms) {K71 : Int32 → Option (Int32 × Ms)} (hK71 : ∀ (x3 : Int32) (H : Heap) (locs : List Loc) (ls : Array Slot), lv_has ls 7 [(0, .ref (a 0)), (2, .int (x2)), (3, .int (x3))] → va_P (dC, dI) vwCl (wM cs a M) H → va_D A (wM cs a M) → va_S A s.heap H locs → K71 x3 = some res → W p l e ({ frames := 4, cells := 0, slots := 0, locals := 92 }) s m args below meth c H locs 0 0 Q (F0 m 71 ls [])) : ∀ (n : Nat) (x3 : Int32) (x4 : Int32) (H : Heap) (locs : List Loc) (ls : Array Slot), lv_has ls 7 [(0, .ref (a 0)), (2, .int (x2)), (3, .int (x3)), (4, .int (x4))] → va_P (dC, dI) vwCl (wM cs a M) H → va_D A (wM cs a M) → va_S A s.heap H locs → l_X8_whom_25 x2 M K71 n x3 x4 = some res → W p l e ({ frames := 4, cells := 0, slots := 0, locals := 92 }) s m args below meth c H locs 0 0 Q (F0 m 25 ls []) := by
  intro n
  induction n with
  | zero => intro x3 x4 H locs ls hl hP hD hS hf; exact absurd hf (by simp [l_X8_whom_25, itr])
  | succ n ih =>
    intro x3 x4 H locs ls hl hP hD hS hf
    replace hf : f_X8_whom_25 x2 x3 x4 M (fun x3 x4 => l_X8_whom_25 x2 M K71 n x3 x4) K71 = some res := by rw [← hf]; unfold l_X8_whom_25; rw [itr_s]
    exact b_X8_whom_25 C G hA hR x2 x3 x4 M (K25 := fun x3 x4 => l_X8_whom_25 x2 M K71 n x3 x4) (fun x3 x4 H locs ls hl hP hD hS hf => ih x3 x4 H locs ls hl hP hD hS hf) hK71 H locs ls hl hP hD hS hf
def f_X8_whom_159 (x2 : Int32) (x3 : Int32) (x5 : Int32) (s0 : Int32) (s1 : Int32) (M : Ms) (K86 : Int32 → Int32 → Option (Int32 × Ms)) : Option (Int32 × Ms) :=
  lett (s0 ||| s1) fun x4_160 =>
  lett (x5 + 1) fun x5_162 =>
  K86 x4_160 x5_162
set_option maxHeartbeats 4000000 in
set_option maxRecDepth 100000 in
theorem b_X8_whom_159 {p : Program} {l : Launch} {e : Env} {s : State} {m : MethodId} {args : Array Value} {below : List Frame} {meth : Method} {c : Code} {Q : State → Prop} {dC : Nat → ClassId} {dI : Nat → Nat → Nat} {cs : Nat → ClassId} {A : Nat → Prop} {a : Nat → Nat} {res : Int32 × Ms} (C : CallFix p m c cX8_whom 7 s args wsX8_whom RX8) (G : GE dC dI cs s) (hA : ∀ q : Nat, s.heap.size ≤ q → A q) (hR : RTi p l e ({ frames := 4, cells := 0, slots := 0, locals := 92 }) s m args below meth c cX8_whom Q (dC, dI) A (fun u : Ms => (wM cs a u)) res) (x2 : Int32) (x3 : Int32) (x5 : Int32) (s0 : Int32) (s1 : Int32) (M : Ms) {K86 : Int32 → Int32 → Option (Int32 × Ms)} (hK86 : ∀ (x4 : Int32) (x5 : Int32) (H : Heap) (locs : List Loc) (ls : Array Slot), lv_has ls 7 [(0, .ref (a 0)), (2, .int (x2)), (3, .int (x3)), (4, .int (x4)), (5, .int (x5))] → va_P (dC, dI) vwCl (wM cs a M) H → va_D A (wM cs a M) → va_S A s.heap H locs → K86 x4 x5 = some res → W p l e ({ frames := 4, cells := 0, slots := 0, locals := 92 }) s m args below meth c H locs 0 0 Q (F0 m 86 ls [])) (H : Heap) (locs : List Loc) (ls : Array Slot) (hl : lv_has ls 7 [(0, .ref (a 0)), (2, .int (x2)), (3, .int (x3)), (5, .int (x5))]) (hP : va_P (dC, dI) vwCl (wM cs a M) H) (hD : va_D A (wM cs a M)) (hS : va_S A s.heap H locs) (hf : f_X8_whom_159 x2 x3 x5 s0 s1 M K86 = some res) : W p l e ({ frames := 4, cells := 0, slots := 0, locals := 92 }) s m args below meth c H locs 0 0 Q (F0 m 159 ls [.int (s1), .int (s0)]) := by
  obtain ⟨hx, hb, hml, hown, hts⟩ := id C
  obtain ⟨hK, hN⟩ := id G
  unfold f_X8_whom_159 at hf
  refine lv_ior hx hb dX8_whom_159 ?_
  refine lv_topi (fun x4_160 ex4_160 => ?_)
  replace hf := lett_s ex4_160 hf
  refine lv_istore (lv' := [(4, .int (x4_160)), (0, .ref (a 0)), (2, .int (x2)), (3, .int (x3)), (5, .int (x5))]) hx hb dX8_whom_160 hl (by decide) rfl (fun ls hl => ?_)
  obtain ⟨x5_162, ex5_162⟩ : ∃ y : Int32, y = (x5 + 1) := ⟨_, rfl⟩
  replace hf := lett_s ex5_162 hf
  refine lv_iinc (v := x5_162) (lv' := [(5, .int (x5_162)), (4, .int (x4_160)), (0, .ref (a 0)), (2, .int (x2)), (3, .int (x3))]) hx hb dX8_whom_162 hl (k := 4) rfl (by rw [ex5_162]; rfl) (by decide) rfl (fun ls hl => ?_)
  refine lv_goto (tgt := 86) hx hb dX8_whom_165 (by decide) ?_
  exact hK86 x4_160 x5_162 _ _ _ (lv_sub hl [2, 3, 4, 1, 0] rfl) hP hD hS hf
def f_X8_whom_142 (x2 : Int32) (x3 : Int32) (x4 : Int32) (x5 : Int32) (s0 : Int32) (M : Ms) (K86 : Int32 → Int32 → Option (Int32 × Ms)) : Option (Int32 × Ms) :=
  if s0 = 0 then (
    f_X8_whom_159 x2 x3 x5 x4 (0 : Int32) M K86
  ) else (
    f_X8_whom_159 x2 x3 x5 x4 ((1 : Int32) <<< (x5 &&& 31)) M K86
  )
set_option maxHeartbeats 4000000 in
set_option maxRecDepth 100000 in
theorem b_X8_whom_142 {p : Program} {l : Launch} {e : Env} {s : State} {m : MethodId} {args : Array Value} {below : List Frame} {meth : Method} {c : Code} {Q : State → Prop} {dC : Nat → ClassId} {dI : Nat → Nat → Nat} {cs : Nat → ClassId} {A : Nat → Prop} {a : Nat → Nat} {res : Int32 × Ms} (C : CallFix p m c cX8_whom 7 s args wsX8_whom RX8) (G : GE dC dI cs s) (hA : ∀ q : Nat, s.heap.size ≤ q → A q) (hR : RTi p l e ({ frames := 4, cells := 0, slots := 0, locals := 92 }) s m args below meth c cX8_whom Q (dC, dI) A (fun u : Ms => (wM cs a u)) res) (x2 : Int32) (x3 : Int32) (x4 : Int32) (x5 : Int32) (s0 : Int32) (M : Ms) {K86 : Int32 → Int32 → Option (Int32 × Ms)} (hK86 : ∀ (x4 : Int32) (x5 : Int32) (H : Heap) (locs : List Loc) (ls : Array Slot), lv_has ls 7 [(0, .ref (a 0)), (2, .int (x2)), (3, .int (x3)), (4, .int (x4)), (5, .int (x5))] → va_P (dC, dI) vwCl (wM cs a M) H → va_D A (wM cs a M) → va_S A s.heap H locs → K86 x4 x5 = some res → W p l e ({ frames := 4, cells := 0, slots := 0, locals := 92 }) s m args below meth c H locs 0 0 Q (F0 m 86 ls [])) (H : Heap) (locs : List Loc) (ls : Array Slot) (hl : lv_has ls 7 [(0, .ref (a 0)), (2, .int (x2)), (3, .int (x3)), (4, .int (x4)), (5, .int (x5))]) (hP : va_P (dC, dI) vwCl (wM cs a M) H) (hD : va_D A (wM cs a M)) (hS : va_S A s.heap H locs) (hf : f_X8_whom_142 x2 x3 x4 x5 s0 M K86 = some res) : W p l e ({ frames := 4, cells := 0, slots := 0, locals := 92 }) s m args below meth c H locs 0 0 Q (F0 m 142 ls [.int (s0)]) := by
  obtain ⟨hx, hb, hml, hown, hts⟩ := id C
  obtain ⟨hK, hN⟩ := id G
  unfold f_X8_whom_142 at hf
  refine lv_istore (lv' := [(6, .int (s0)), (0, .ref (a 0)), (2, .int (x2)), (3, .int (x3)), (4, .int (x4)), (5, .int (x5))]) hx hb dX8_whom_142 hl (by decide) rfl (fun ls hl => ?_)
  refine lv_iload hx hb dX8_whom_144 (lv_at hl 4 rfl) ?_
  refine lv_iload hx hb dX8_whom_146 (lv_at hl 0 rfl) ?_
  refine lv_if_eq (tgt := 158) hx hb dX8_whom_148 (by decide) (fun c1 => ?_) (fun c1 => ?_)
  · replace hf := it_t c1 hf
    refine lv_iconst (v := 0) hx hb dX8_whom_158 (by decide) ?_
    exact b_X8_whom_159 C G hA hR x2 x3 x5 x4 (0 : Int32) M hK86 _ _ _ (lv_sub hl [1, 2, 3, 5] rfl) hP hD hS hf
  · replace hf := it_f c1 hf
    refine lv_iconst (v := 1) hx hb dX8_whom_151 (by decide) ?_
    refine lv_iload hx hb dX8_whom_152 (lv_at hl 5 rfl) ?_
    refine lv_ishl hx hb dX8_whom_154 ?_
    refine lv_goto (tgt := 159) hx hb dX8_whom_155 (by decide) ?_
    exact b_X8_whom_159 C G hA hR x2 x3 x5 x4 ((1 : Int32) <<< (x5 &&& 31)) M hK86 _ _ _ (lv_sub hl [1, 2, 3, 5] rfl) hP hD hS hf
def f_X8_whom_141 (x2 : Int32) (x3 : Int32) (x4 : Int32) (x5 : Int32) (M : Ms) (K86 : Int32 → Int32 → Option (Int32 × Ms)) : Option (Int32 × Ms) :=
  f_X8_whom_142 x2 x3 x4 x5 (0 : Int32) M K86
set_option maxHeartbeats 4000000 in
set_option maxRecDepth 100000 in
theorem b_X8_whom_141 {p : Program} {l : Launch} {e : Env} {s : State} {m : MethodId} {args : Array Value} {below : List Frame} {meth : Method} {c : Code} {Q : State → Prop} {dC : Nat → ClassId} {dI : Nat → Nat → Nat} {cs : Nat → ClassId} {A : Nat → Prop} {a : Nat → Nat} {res : Int32 × Ms} (C : CallFix p m c cX8_whom 7 s args wsX8_whom RX8) (G : GE dC dI cs s) (hA : ∀ q : Nat, s.heap.size ≤ q → A q) (hR : RTi p l e ({ frames := 4, cells := 0, slots := 0, locals := 92 }) s m args below meth c cX8_whom Q (dC, dI) A (fun u : Ms => (wM cs a u)) res) (x2 : Int32) (x3 : Int32) (x4 : Int32) (x5 : Int32) (M : Ms) {K86 : Int32 → Int32 → Option (Int32 × Ms)} (hK86 : ∀ (x4 : Int32) (x5 : Int32) (H : Heap) (locs : List Loc) (ls : Array Slot), lv_has ls 7 [(0, .ref (a 0)), (2, .int (x2)), (3, .int (x3)), (4, .int (x4)), (5, .int (x5))] → va_P (dC, dI) vwCl (wM cs a M) H → va_D A (wM cs a M) → va_S A s.heap H locs → K86 x4 x5 = some res → W p l e ({ frames := 4, cells := 0, slots := 0, locals := 92 }) s m args below meth c H locs 0 0 Q (F0 m 86 ls [])) (H : Heap) (locs : List Loc) (ls : Array Slot) (hl : lv_has ls 7 [(0, .ref (a 0)), (2, .int (x2)), (3, .int (x3)), (4, .int (x4)), (5, .int (x5))]) (hP : va_P (dC, dI) vwCl (wM cs a M) H) (hD : va_D A (wM cs a M)) (hS : va_S A s.heap H locs) (hf : f_X8_whom_141 x2 x3 x4 x5 M K86 = some res) : W p l e ({ frames := 4, cells := 0, slots := 0, locals := 92 }) s m args below meth c H locs 0 0 Q (F0 m 141 ls []) := by
  obtain ⟨hx, hb, hml, hown, hts⟩ := id C
  obtain ⟨hK, hN⟩ := id G
  unfold f_X8_whom_141 at hf
  refine lv_iconst (v := 0) hx hb dX8_whom_141 (by decide) ?_
  exact b_X8_whom_142 C G hA hR x2 x3 x4 x5 (0 : Int32) M hK86 _ _ _ (lv_sub hl [0, 1, 2, 3, 4] rfl) hP hD hS hf
def f_X8_whom_86 (x2 : Int32) (x3 : Int32) (x4 : Int32) (x5 : Int32) (M : Ms) (K86 : Int32 → Int32 → Option (Int32 × Ms)) : Option (Int32 × Ms) :=
  gi ((4 : Int32)) 362 <|
  if ((M.2.2 0) ((4 : Int32)).toNatClampNeg) ≤ x5 then (
    some (x4, M)
  ) else (
    gi ((((26 : Int32) + ((5 : Int32) * x5)) + (3 : Int32))) 362 <|
    if ((M.2.2 1) ((((26 : Int32) + ((5 : Int32) * x5)) + (3 : Int32))).toNatClampNeg) = (1 : Int32) then (
      if ((x3 >>> (x5 &&& 31)) &&& (1 : Int32)) = 0 then (
        bn (f_X8_whole x5 (M.2.2 1)) fun r130 =>
        if r130 = x2 then (
          f_X8_whom_142 x2 x3 x4 x5 (1 : Int32) M K86
        ) else (
          f_X8_whom_141 x2 x3 x4 x5 M K86
        )
      ) else (
        f_X8_whom_141 x2 x3 x4 x5 M K86
      )
    ) else (
      f_X8_whom_141 x2 x3 x4 x5 M K86
    )
  )
set_option maxHeartbeats 4000000 in
set_option maxRecDepth 100000 in
theorem b_X8_whom_86 {p : Program} {l : Launch} {e : Env} {s : State} {m : MethodId} {args : Array Value} {below : List Frame} {meth : Method} {c : Code} {Q : State → Prop} {dC : Nat → ClassId} {dI : Nat → Nat → Nat} {cs : Nat → ClassId} {A : Nat → Prop} {a : Nat → Nat} {res : Int32 × Ms} (C : CallFix p m c cX8_whom 7 s args wsX8_whom RX8) (G : GE dC dI cs s) (hA : ∀ q : Nat, s.heap.size ≤ q → A q) (hR : RTi p l e ({ frames := 4, cells := 0, slots := 0, locals := 92 }) s m args below meth c cX8_whom Q (dC, dI) A (fun u : Ms => (wM cs a u)) res) (x2 : Int32) (x3 : Int32) (x4 : Int32) (x5 : Int32) (M : Ms) {K86 : Int32 → Int32 → Option (Int32 × Ms)} (hK86 : ∀ (x4 : Int32) (x5 : Int32) (H : Heap) (locs : List Loc) (ls : Array Slot), lv_has ls 7 [(0, .ref (a 0)), (2, .int (x2)), (3, .int (x3)), (4, .int (x4)), (5, .int (x5))] → va_P (dC, dI) vwCl (wM cs a M) H → va_D A (wM cs a M) → va_S A s.heap H locs → K86 x4 x5 = some res → W p l e ({ frames := 4, cells := 0, slots := 0, locals := 92 }) s m args below meth c H locs 0 0 Q (F0 m 86 ls [])) (H : Heap) (locs : List Loc) (ls : Array Slot) (hl : lv_has ls 7 [(0, .ref (a 0)), (2, .int (x2)), (3, .int (x3)), (4, .int (x4)), (5, .int (x5))]) (hP : va_P (dC, dI) vwCl (wM cs a M) H) (hD : va_D A (wM cs a M)) (hS : va_S A s.heap H locs) (hf : f_X8_whom_86 x2 x3 x4 x5 M K86 = some res) : W p l e ({ frames := 4, cells := 0, slots := 0, locals := 92 }) s m args below meth c H locs 0 0 Q (F0 m 86 ls []) := by
  obtain ⟨hx, hb, hml, hown, hts⟩ := id C
  obtain ⟨hK, hN⟩ := id G
  unfold f_X8_whom_86 at hf
  refine lv_iload hx hb dX8_whom_86 (lv_at hl 4 rfl) ?_
  refine lv_aload_n hx hb dX8_whom_88 rfl (lv_at hl 0 rfl) ?_
  refine va_get (D := (dC, dI)) (ci := 8) (v := .ref (a 1)) (C := RX8) (T := TX8) (N := 20) hx hb hts in_X8_whom_X8 hown hK hP 0 rfl rfl 0 (by decide) (hts (.fieldLink RX8 7 "BackLoansModel" "now" "[I") (by decide +kernel)) (fun _ h9 => h9) rfl dX8_whom_89 ?_
  refine lv_iconst (v := 4) hx hb dX8_whom_92 (by decide) ?_
  obtain ⟨hi1, hf⟩ := gi_e hf
  refine va_iald hx hb hK hP 1 0 rfl rfl hi1 dX8_whom_93 ?_
  refine lv_icmp_ge (tgt := 168) hx hb dX8_whom_94 (by decide) (fun c2 => ?_) (fun c2 => ?_)
  · replace hf := it_t c2 hf
    refine lv_iload hx hb dX8_whom_168 (lv_at hl 3 rfl) ?_
    exact hR _ _ _ _ _ _ dX8_whom_170 hf hP hD hS
  · replace hf := it_f c2 hf
    refine lv_aload_n hx hb dX8_whom_97 rfl (lv_at hl 0 rfl) ?_
    refine va_get (D := (dC, dI)) (ci := 8) (v := .ref (a 2)) (C := RX8) (T := TX8) (N := 20) hx hb hts in_X8_whom_X8 hown hK hP 0 rfl rfl 1 (by decide) (hts (.fieldLink RX8 13 "BackLoansModel" "tried" "[I") (by decide +kernel)) (fun _ h9 => h9) rfl dX8_whom_98 ?_
    refine lv_bipush (v := 26) hx hb dX8_whom_101 (by decide) ?_
    refine lv_iconst (v := 5) hx hb dX8_whom_103 (by decide) ?_
    refine lv_iload hx hb dX8_whom_104 (lv_at hl 4 rfl) ?_
    refine lv_imul hx hb dX8_whom_106 ?_
    refine lv_iadd hx hb dX8_whom_107 ?_
    refine lv_iconst (v := 3) hx hb dX8_whom_108 (by decide) ?_
    refine lv_iadd hx hb dX8_whom_109 ?_
    obtain ⟨hi3, hf⟩ := gi_e hf
    refine va_iald hx hb hK hP 2 0 rfl rfl hi3 dX8_whom_110 ?_
    refine lv_iconst (v := 1) hx hb dX8_whom_111 (by decide) ?_
    refine lv_icmp_ne (tgt := 141) hx hb dX8_whom_112 (by decide) (fun c4 => ?_) (fun c4 => ?_)
    · replace hf := it_f c4 hf
      exact b_X8_whom_141 C G hA hR x2 x3 x4 x5 M hK86 _ _ _ (lv_sub hl [0, 1, 2, 3, 4] rfl) hP hD hS hf
    · replace hf := it_t c4 hf
      refine lv_iload_n hx hb dX8_whom_115 rfl (lv_at hl 2 rfl) ?_
      refine lv_iload hx hb dX8_whom_116 (lv_at hl 4 rfl) ?_
      refine lv_ishr hx hb dX8_whom_118 ?_
      refine lv_iconst (v := 1) hx hb dX8_whom_119 (by decide) ?_
      refine lv_iand hx hb dX8_whom_120 ?_
      refine lv_if_ne (tgt := 141) hx hb dX8_whom_121 (by decide) (fun c5 => ?_) (fun c5 => ?_)
      · replace hf := it_f c5 hf
        exact b_X8_whom_141 C G hA hR x2 x3 x4 x5 M hK86 _ _ _ (lv_sub hl [0, 1, 2, 3, 4] rfl) hP hD hS hf
      · replace hf := it_t c5 hf
        refine lv_aload_n hx hb dX8_whom_124 rfl (lv_at hl 0 rfl) ?_
        refine va_get (D := (dC, dI)) (ci := 8) (v := .ref (a 2)) (C := RX8) (T := TX8) (N := 20) hx hb hts in_X8_whom_X8 hown hK hP 0 rfl rfl 1 (by decide) (hts (.fieldLink RX8 13 "BackLoansModel" "tried" "[I") (by decide +kernel)) (fun _ h9 => h9) rfl dX8_whom_125 ?_
        refine lv_iload hx hb dX8_whom_128 (lv_at hl 4 rfl) ?_
        obtain ⟨r130, hr130, hf⟩ := bn_e hf
        have hPc := hP.sub (ws' := (wA cs (a 2) 362 (M.2.2 1))) [2] rfl
        refine vp_callSi (W.runS (As := [.ref (a 2), .int (x5)]) (rest := []) C (c_X8_whole l dC dI cs (a 2) (M.2.2 1) x5 r130 hr130) (va_cwS 2 hts gX8_whom_X8_whole rfl rfl rfl (by decide +kernel) ⟨Nat.le_of_ble_eq_true rfl, Nat.le_of_ble_eq_true rfl⟩) ⟨(fun a U g mk q => ⟨q.1, q.2.1, GE.calling q.2.2⟩), (fun U hU hW => ⟨rfl, by rw [hU]; exact hPc, GE.warm hW G⟩)⟩ rfl rfl hl.1 rfl (lv_room (Nat.le_of_ble_eq_true rfl)) dX8_whom_130 ⟨Nat.le_of_ble_eq_true rfl, Nat.le_of_ble_eq_true rfl⟩) (fun qr130 hqr130 => ?_)
        obtain rfl := hqr130.symm
        refine lv_iload_n hx hb dX8_whom_133 rfl (lv_at hl 1 rfl) ?_
        refine lv_icmp_ne (tgt := 141) hx hb dX8_whom_134 (by decide) (fun c6 => ?_) (fun c6 => ?_)
        · replace hf := it_f c6 hf
          exact b_X8_whom_141 C G hA hR x2 x3 x4 x5 M hK86 _ _ _ (lv_sub hl [0, 1, 2, 3, 4] rfl) hP hD hS hf
        · replace hf := it_t c6 hf
          refine lv_iconst (v := 1) hx hb dX8_whom_137 (by decide) ?_
          refine lv_goto (tgt := 142) hx hb dX8_whom_138 (by decide) ?_
          exact b_X8_whom_142 C G hA hR x2 x3 x4 x5 (1 : Int32) M hK86 _ _ _ (lv_sub hl [0, 1, 2, 3, 4] rfl) hP hD hS hf
def l_X8_whom_86 (x2 : Int32) (x3 : Int32) (M : Ms)  (n : Nat) (x4 : Int32) (x5 : Int32) : Option (Int32 × Ms) := itr (fun (k : Int32 × Int32 → Option (Int32 × Ms)) (z : Int32 × Int32) => f_X8_whom_86 x2 x3 z.1 z.2 M (fun x4 x5 => k (x4, x5))) n (x4, x5)
set_option maxHeartbeats 4000000 in
set_option maxRecDepth 100000 in
theorem w_X8_whom_86 {p : Program} {l : Launch} {e : Env} {s : State} {m : MethodId} {args : Array Value} {below : List Frame} {meth : Method} {c : Code} {Q : State → Prop} {dC : Nat → ClassId} {dI : Nat → Nat → Nat} {cs : Nat → ClassId} {A : Nat → Prop} {a : Nat → Nat} {res : Int32 × Ms} (C : CallFix p m c cX8_whom 7 s args wsX8_whom RX8) (G : GE dC dI cs s) (hA : ∀ q : Nat, s.heap.size ≤ q → A q) (hR : RTi p l e ({ frames := 4, cells := 0, slots := 0, locals := 92 }) s m args below meth c cX8_whom Q (dC, dI) A (fun u : Ms => (wM cs a u)) res) (x2 : Int32) (x3 : Int32) (M : Ms)   : ∀ (n : Nat) (x4 : Int32) (x5 : Int32) (H : Heap) (locs : List Loc) (ls : Array Slot), lv_has ls 7 [(0, .ref (a 0)), (2, .int (x2)), (3, .int (x3)), (4, .int (x4)), (5, .int (x5))] → va_P (dC, dI) vwCl (wM cs a M) H → va_D A (wM cs a M) → va_S A s.heap H locs → l_X8_whom_86 x2 x3 M n x4 x5 = some res → W p l e ({ frames := 4, cells := 0, slots := 0, locals := 92 }) s m args below meth c H locs 0 0 Q (F0 m 86 ls []) := by
  intro n
  induction n with
  | zero => intro x4 x5 H locs ls hl hP hD hS hf; exact absurd hf (by simp [l_X8_whom_86, itr])
  | succ n ih =>
    intro x4 x5 H locs ls hl hP hD hS hf
    replace hf : f_X8_whom_86 x2 x3 x4 x5 M (fun x4 x5 => l_X8_whom_86 x2 x3 M n x4 x5) = some res := by rw [← hf]; unfold l_X8_whom_86; rw [itr_s]
    exact b_X8_whom_86 C G hA hR x2 x3 x4 x5 M (K86 := fun x4 x5 => l_X8_whom_86 x2 x3 M n x4 x5) (fun x4 x5 H locs ls hl hP hD hS hf => ih x4 x5 H locs ls hl hP hD hS hf) H locs ls hl hP hD hS hf
def f_X8_whom_71 (x2 : Int32) (x3 : Int32) (M : Ms)  : Option (Int32 × Ms) :=
  bn (f_X8_month (0 : Int32) (M.2.2 1)) fun r76 =>
  lett ((M.1, M.2.1, va_up M.2.2 1 (r76.2))) fun M_76 =>
  lett (0 : Int32) fun x4_81 =>
  lett (0 : Int32) fun x5_84 =>
  l_X8_whom_86 x2 x3 M_76 FU x4_81 x5_84
set_option maxHeartbeats 4000000 in
set_option maxRecDepth 100000 in
theorem b_X8_whom_71 {p : Program} {l : Launch} {e : Env} {s : State} {m : MethodId} {args : Array Value} {below : List Frame} {meth : Method} {c : Code} {Q : State → Prop} {dC : Nat → ClassId} {dI : Nat → Nat → Nat} {cs : Nat → ClassId} {A : Nat → Prop} {a : Nat → Nat} {res : Int32 × Ms} (C : CallFix p m c cX8_whom 7 s args wsX8_whom RX8) (G : GE dC dI cs s) (hA : ∀ q : Nat, s.heap.size ≤ q → A q) (hR : RTi p l e ({ frames := 4, cells := 0, slots := 0, locals := 92 }) s m args below meth c cX8_whom Q (dC, dI) A (fun u : Ms => (wM cs a u)) res) (x2 : Int32) (x3 : Int32) (M : Ms)   (H : Heap) (locs : List Loc) (ls : Array Slot) (hl : lv_has ls 7 [(0, .ref (a 0)), (2, .int (x2)), (3, .int (x3))]) (hP : va_P (dC, dI) vwCl (wM cs a M) H) (hD : va_D A (wM cs a M)) (hS : va_S A s.heap H locs) (hf : f_X8_whom_71 x2 x3 M = some res) : W p l e ({ frames := 4, cells := 0, slots := 0, locals := 92 }) s m args below meth c H locs 0 0 Q (F0 m 71 ls []) := by
  obtain ⟨hx, hb, hml, hown, hts⟩ := id C
  obtain ⟨hK, hN⟩ := id G
  unfold f_X8_whom_71 at hf
  refine lv_aload_n hx hb dX8_whom_71 rfl (lv_at hl 0 rfl) ?_
  refine va_get (D := (dC, dI)) (ci := 8) (v := .ref (a 2)) (C := RX8) (T := TX8) (N := 20) hx hb hts in_X8_whom_X8 hown hK hP 0 rfl rfl 1 (by decide) (hts (.fieldLink RX8 13 "BackLoansModel" "tried" "[I") (by decide +kernel)) (fun _ h9 => h9) rfl dX8_whom_72 ?_
  refine lv_iconst (v := 0) hx hb dX8_whom_75 (by decide) ?_
  obtain ⟨r76, hr76, hf⟩ := bn_e hf
  have hPc := hP.sub (ws' := (wA cs (a 2) 362 (M.2.2 1))) [2] rfl
  have hDc := hD.sub (ws' := (wA cs (a 2) 362 (M.2.2 1))) [2] (by decide) rfl
  have hFc := va_free (wc := (wA cs (a 2) 362 (M.2.2 1))) hD hS hA [2] rfl
  refine va_calli (va_runS (As := [.ref (a 2), .int ((0 : Int32))]) (rest := []) C (c_X8_month l dC dI cs (a 2) H.size (M.2.2 1) (0 : Int32) r76 hr76) (va_cwS 2 hts gX8_whom_X8_month rfl rfl rfl (by decide +kernel) ⟨Nat.le_of_ble_eq_true rfl, Nat.le_of_ble_eq_true rfl⟩) ⟨(fun a U g mk q => ⟨q.1, q.2.1, q.2.2.1, GE.calling q.2.2.2.1, q.2.2.2.2⟩), (fun U hU hW => ⟨rfl, by rw [hU], by rw [hU]; exact hPc, GE.warm hW G, hDc.weaken (fun _ _ _ _ => trivial)⟩)⟩ rfl rfl hl.1 rfl (lv_room (Nat.le_of_ble_eq_true rfl)) dX8_whom_76 ⟨Nat.le_of_ble_eq_true rfl, Nat.le_of_ble_eq_true rfl⟩) hS (fun q _ h => hFc q h) hFc (fun q u t H1 locs ht hvm hw hB hz1 hk1 hS => ?_)
  obtain ⟨rfl, rfl⟩ := hw
  obtain ⟨hP1, hD1⟩ := hB
  rw [ht] at hP1
  obtain ⟨hP, hD⟩ := va_join (wr := [0, 1, 3, 4, 5, 6, 7, 8, 9, 10, 11].filterMap (fun i => ((wM cs a M))[i]?)) (w1 := (wA cs (a 2) 362 r76.2)) hP hD [2] [0, 1, 3, 4, 5, 6, 7, 8, 9, 10, 11] rfl rfl (by decide) (by decide) hk1 hFc hP1 hD1
  generalize H1 = H at hP hS ⊢
  have hP := hP.sub (ws' := (wM cs a (M.1, M.2.1, va_up M.2.2 1 (r76.2)))) [0, 1, 11, 2, 3, 4, 5, 6, 7, 8, 9, 10] rfl
  have hD := hD.sub (ws' := (wM cs a (M.1, M.2.1, va_up M.2.2 1 (r76.2)))) [0, 1, 11, 2, 3, 4, 5, 6, 7, 8, 9, 10] (by decide) rfl
  obtain ⟨M_76, hP, hD, hf⟩ := st_nm (ws := fun M_76 : Ms => (wM cs a M_76)) ((M.1, M.2.1, va_up M.2.2 1 (r76.2))) hP hD hf
  refine lv_pop hx hb dX8_whom_79 rfl ?_
  refine lv_iconst (v := 0) hx hb dX8_whom_80 (by decide) ?_
  refine lv_topi (fun x4_81 ex4_81 => ?_)
  replace hf := lett_s ex4_81 hf
  refine lv_istore (lv' := [(4, .int (x4_81)), (0, .ref (a 0)), (2, .int (x2)), (3, .int (x3))]) hx hb dX8_whom_81 hl (by decide) rfl (fun ls hl => ?_)
  refine lv_iconst (v := 0) hx hb dX8_whom_83 (by decide) ?_
  refine lv_topi (fun x5_84 ex5_84 => ?_)
  replace hf := lett_s ex5_84 hf
  refine lv_istore (lv' := [(5, .int (x5_84)), (4, .int (x4_81)), (0, .ref (a 0)), (2, .int (x2)), (3, .int (x3))]) hx hb dX8_whom_84 hl (by decide) rfl (fun ls hl => ?_)
  exact w_X8_whom_86 C G hA hR x2 x3 M_76 FU x4_81 x5_84 _ _ _ (lv_sub hl [2, 3, 4, 1, 0] rfl) hP hD hS hf
def f_X8_whom (x1 : Int32) (x2 : Int32) (M : Ms) : Option (Int32 × Ms) :=
  bn (f_X8_in x1 (0 : Int32) (59 : Int32)) fun r4 =>
  if r4 = 0 then (
    bn (f_X8_bad M) fun r11 =>
    some (r11.1, r11.2)
  ) else (
    bn (f_X8_goes x1 M) fun r17 =>
    lett (0 : Int32) fun x3_21 =>
    lett (0 : Int32) fun x4_23 =>
    l_X8_whom_25 x2 r17 (fun x3 => f_X8_whom_71 x2 x3 r17) FU x3_21 x4_23
  )
set_option maxHeartbeats 4000000 in
set_option maxRecDepth 100000 in
theorem c_X8_whom (l : Launch) (dC : Nat → ClassId) (dI : Nat → Nat → Nat) (cs : Nat → ClassId) (a : Nat → Nat) (sz : Nat) (M : Ms) (x1 : Int32) (x2 : Int32) (res : Int32 × Ms) (hf : f_X8_whom x1 x2 M = some res) : Met l yX8_whom wsX8_whom ({ frames := 4, cells := 0, slots := 0, locals := 92 }) (va_Pc [.ref (a 0), .int (x1), .int (x2)] (fun U => U.heap.size = sz ∧ va_P (dC, dI) vwCl (wM cs a M) U.heap ∧ GE dC dI cs U ∧ va_D (fun _ => True) (wM cs a M))) (va_Qi (fun r (u : Ms) => r = res.1 ∧ u = res.2) (fun u t => va_P (dC, dI) vwCl ((fun u : Ms => (wM cs a u)) u) t.heap ∧ va_D (va_A (wM cs a M) sz) ((fun u : Ms => (wM cs a u)) u)) (va_A (wM cs a M) sz)) 0 0 (va_A (wM cs a M) sz) := by
  refine Met.ofW (cc := cX8_whom) (maxL := 7) (ret := (some .int)) (by decide) rfl ?_
  intro p e s m args below meth c s₁ Bd hml hv
  obtain ⟨rfl, hsz, hP, G, hD0⟩ := hv
  have hts := atoms_spec (ws := wsX8_whom) Bd.pre
  have hown : s.vm.findClass RX8 = some m.cls := findClass_of_methodNamed Bd.named
  have hlocks := Bd.notSynchronized
  have hx := Bd.exec
  have hb := Bd.bytes
  have hr := Bd.returns
  have C : CallFix p m c cX8_whom 7 s _ wsX8_whom RX8 := ⟨hx, hb, hml, hown, hts⟩
  obtain ⟨hK, hN⟩ := id G
  subst hsz
  have hD := hD0.self (sz := s.heap.size)
  generalize hAe : va_A (wM cs a M) s.heap.size = A at hD ⊢
  have hA : ∀ q : Nat, s.heap.size ≤ q → A q := fun q h => by rw [← hAe]; exact Or.inr h
  have hS : va_S A s.heap s.heap [] := va_S.rf
  have hR : RTi p l e ({ frames := 4, cells := 0, slots := 0, locals := 92 }) s m ([.ref (a 0), .int (x1), .int (x2)] : List Value).toArray below meth c cX8_whom (MQ below (va_Qi (fun r (u : Ms) => r = res.1 ∧ u = res.2) (fun u t => va_P (dC, dI) vwCl ((fun u : Ms => (wM cs a u)) u) t.heap ∧ va_D A ((fun u : Ms => (wM cs a u)) u)) A) ([.ref (a 0), .int (x1), .int (x2)] : List Value).toArray s 0 0 A) (dC, dI) A (fun u : Ms => (wM cs a u)) res := fun H locs pc ls r u dd h hP hD hS => W.iret hx hb hr (fun t ht hW => ⟨⟨r, u, rfl, by cases h; exact ⟨rfl, rfl⟩, by rw [ht]; exact hP, hD⟩, hS.F ht⟩) hS.2.2 dd
  have hl := lv_entry ([.ref (a 0), .int (x1), .int (x2)]) (n := 7) (Nat.le_of_ble_eq_true rfl)
  rw [lg_entry_eq]
  generalize (lg_sl ([.ref (a 0), .int (x1), .int (x2)]) ++ List.replicate (7 - (lg_sl ([.ref (a 0), .int (x1), .int (x2)])).length) Slot.unset).toArray = ls at hl ⊢
  have hl : lv_has ls 7 [(0, .ref (a 0)), (1, .int (x1)), (2, .int (x2))] := hl
  unfold f_X8_whom at hf
  refine lv_iload_n hx hb dX8_whom_0 rfl (lv_at hl 1 rfl) ?_
  refine lv_iconst (v := 0) hx hb dX8_whom_1 (by decide) ?_
  refine lv_bipush (v := 59) hx hb dX8_whom_2 (by decide) ?_
  obtain ⟨r4, hr4, hf⟩ := bn_e hf
  have hPc := hP.sub (ws' := ([] : va_W)) [] rfl
  refine vp_callSi (W.runS (As := [.int (x1), .int ((0 : Int32)), .int ((59 : Int32))]) (rest := []) C (c_X8_in l dC dI cs x1 (0 : Int32) (59 : Int32) r4 hr4) (va_cwS 3 hts gX8_whom_X8_in rfl rfl rfl (by decide +kernel) ⟨Nat.le_of_ble_eq_true rfl, Nat.le_of_ble_eq_true rfl⟩) ⟨(fun a U g mk q => ⟨q.1, q.2.1, GE.calling q.2.2⟩), (fun U hU hW => ⟨rfl, by rw [hU]; exact hPc, GE.warm hW G⟩)⟩ rfl rfl hl.1 rfl (lv_room (Nat.le_of_ble_eq_true rfl)) dX8_whom_4 ⟨Nat.le_of_ble_eq_true rfl, Nat.le_of_ble_eq_true rfl⟩) (fun qr4 hqr4 => ?_)
  obtain ⟨hqr4, hnr4⟩ := hqr4
  obtain rfl := hqr4.symm
  refine lv_if_ne (tgt := 15) hx hb dX8_whom_7 (by decide) (fun c1 => ?_) (fun c1 => ?_)
  · replace hf := it_f c1 hf
    refine lv_aload_n hx hb dX8_whom_15 rfl (lv_at hl 0 rfl) ?_
    refine lv_iload_n hx hb dX8_whom_16 rfl (lv_at hl 1 rfl) ?_
    obtain ⟨r17, hr17, hf⟩ := bn_e hf
    have hPc := hP.sub (ws' := (wM cs a M)) [0, 1, 2, 3, 4, 5, 6, 7, 8, 9, 10, 11] rfl
    have hDc := hD.sub (ws' := (wM cs a M)) [0, 1, 2, 3, 4, 5, 6, 7, 8, 9, 10, 11] (by decide) rfl
    have hFc := va_free (wc := (wM cs a M)) hD hS hA [0, 1, 2, 3, 4, 5, 6, 7, 8, 9, 10, 11] rfl
    refine va_callv (va_runV (As := [.int (x1)]) (rest := []) C (c_X8_goes l dC dI cs a s.heap.size M x1 r17 hr17) (cwV 1 hts gX8_whom_X8_goes rfl rfl rfl (by decide +kernel) ⟨Nat.le_of_ble_eq_true rfl, Nat.le_of_ble_eq_true rfl⟩) ⟨(fun a U g mk q => ⟨q.1, q.2.1, q.2.2.1, GE.calling q.2.2.2.1, q.2.2.2.2⟩), va_recv hK hPc (ci := 8) (q0 := 0) rfl rfl, (fun U hU hW => ⟨rfl, by rw [hU], by rw [hU]; exact hPc, GE.warm hW G, hDc.weaken (fun _ _ _ _ => trivial)⟩)⟩ rfl rfl hl.1 rfl (lv_room (Nat.le_of_ble_eq_true rfl)) dX8_whom_17 ⟨Nat.le_of_ble_eq_true rfl, Nat.le_of_ble_eq_true rfl⟩) hS (fun q _ h => hFc q h) hFc (fun u t H1 locs ht hvm hw hB hz1 hk1 hS => ?_)
    obtain rfl := hw.symm
    obtain ⟨hP1, hD1⟩ := hB
    rw [ht] at hP1
    obtain ⟨hP, hD⟩ := va_join (wr := []) (w1 := (wM cs a r17)) hP hD [0, 1, 2, 3, 4, 5, 6, 7, 8, 9, 10, 11] [] rfl rfl (by decide) (by decide) hk1 hFc hP1 hD1
    generalize H1 = H at hP hS ⊢
    have hP := hP.sub (ws' := (wM cs a r17)) [0, 1, 2, 3, 4, 5, 6, 7, 8, 9, 10, 11] rfl
    have hD := hD.sub (ws' := (wM cs a r17)) [0, 1, 2, 3, 4, 5, 6, 7, 8, 9, 10, 11] (by decide) rfl
    refine lv_iconst (v := 0) hx hb dX8_whom_20 (by decide) ?_
    refine lv_topi (fun x3_21 ex3_21 => ?_)
    replace hf := lett_s ex3_21 hf
    refine lv_istore_n (lv' := [(3, .int (x3_21)), (0, .ref (a 0)), (1, .int (x1)), (2, .int (x2))]) hx hb dX8_whom_21 rfl hl (by decide) rfl (fun ls hl => ?_)
    refine lv_iconst (v := 0) hx hb dX8_whom_22 (by decide) ?_
    refine lv_topi (fun x4_23 ex4_23 => ?_)
    replace hf := lett_s ex4_23 hf
    refine lv_istore (lv' := [(4, .int (x4_23)), (3, .int (x3_21)), (0, .ref (a 0)), (1, .int (x1)), (2, .int (x2))]) hx hb dX8_whom_23 hl (by decide) rfl (fun ls hl => ?_)
    exact w_X8_whom_25 C G hA hR x2 r17 (fun x3 H locs ls hl hP hD hS hf => b_X8_whom_71 C G hA hR x2 x3 r17 _ _ _ hl hP hD hS hf) FU x3_21 x4_23 _ _ _ (lv_sub hl [2, 4, 1, 0] rfl) hP hD hS hf
  · replace hf := it_t c1 hf
    refine lv_aload_n hx hb dX8_whom_10 rfl (lv_at hl 0 rfl) ?_
    obtain ⟨r11, hr11, hf⟩ := bn_e hf
    have hPc := hP.sub (ws' := (wM cs a M)) [0, 1, 2, 3, 4, 5, 6, 7, 8, 9, 10, 11] rfl
    have hDc := hD.sub (ws' := (wM cs a M)) [0, 1, 2, 3, 4, 5, 6, 7, 8, 9, 10, 11] (by decide) rfl
    have hFc := va_free (wc := (wM cs a M)) hD hS hA [0, 1, 2, 3, 4, 5, 6, 7, 8, 9, 10, 11] rfl
    refine va_calli (va_runV (As := []) (rest := []) C (c_X8_bad l dC dI cs a s.heap.size M r11 hr11) (cwV 0 hts gX8_whom_X8_bad rfl rfl rfl (by decide +kernel) ⟨Nat.le_of_ble_eq_true rfl, Nat.le_of_ble_eq_true rfl⟩) ⟨(fun a U g mk q => ⟨q.1, q.2.1, q.2.2.1, GE.calling q.2.2.2.1, q.2.2.2.2⟩), va_recv hK hPc (ci := 8) (q0 := 0) rfl rfl, (fun U hU hW => ⟨rfl, by rw [hU], by rw [hU]; exact hPc, GE.warm hW G, hDc.weaken (fun _ _ _ _ => trivial)⟩)⟩ rfl rfl hl.1 rfl (lv_room (Nat.le_of_ble_eq_true rfl)) dX8_whom_11 ⟨Nat.le_of_ble_eq_true rfl, Nat.le_of_ble_eq_true rfl⟩) hS (fun q _ h => hFc q h) hFc (fun q u t H1 locs ht hvm hw hB hz1 hk1 hS => ?_)
    obtain ⟨rfl, rfl⟩ := hw
    obtain ⟨hP1, hD1⟩ := hB
    rw [ht] at hP1
    obtain ⟨hP, hD⟩ := va_join (wr := []) (w1 := (wM cs a r11.2)) hP hD [0, 1, 2, 3, 4, 5, 6, 7, 8, 9, 10, 11] [] rfl rfl (by decide) (by decide) hk1 hFc hP1 hD1
    generalize H1 = H at hP hS ⊢
    have hP := hP.sub (ws' := (wM cs a r11.2)) [0, 1, 2, 3, 4, 5, 6, 7, 8, 9, 10, 11] rfl
    have hD := hD.sub (ws' := (wM cs a r11.2)) [0, 1, 2, 3, 4, 5, 6, 7, 8, 9, 10, 11] (by decide) rfl
    exact hR _ _ _ _ _ _ dX8_whom_14 hf hP hD hS

theorem in_X8_price_X8 : ∀ w ∈ wsX80, w ∈ wsX8_price := by decide +kernel
def f_X8_price (x1 : Int32) (M : Ms) : Option (Int32 × Ms) :=
  bn (f_X8_isLoan x1 M) fun r2 =>
  if r2 = 0 then (
    bn (f_X8_bad M) fun r45 =>
    some (r45.1, r45.2)
  ) else (
    bn (f_X8_given x1 M) fun r10 =>
    gi ((((26 : Int32) + ((5 : Int32) * x1)) + (4 : Int32))) 362 <|
    gi ((((26 : Int32) + ((5 : Int32) * x1)) + (2 : Int32))) 362 <|
    gz (((M.2.2 0) ((((26 : Int32) + ((5 : Int32) * x1)) + (2 : Int32))).toNatClampNeg)) <|
    some (((r10 * ((M.2.2 0) ((((26 : Int32) + ((5 : Int32) * x1)) + (4 : Int32))).toNatClampNeg)) / ((M.2.2 0) ((((26 : Int32) + ((5 : Int32) * x1)) + (2 : Int32))).toNatClampNeg)), M)
  )
set_option maxHeartbeats 4000000 in
set_option maxRecDepth 100000 in
theorem c_X8_price (l : Launch) (dC : Nat → ClassId) (dI : Nat → Nat → Nat) (cs : Nat → ClassId) (a : Nat → Nat) (sz : Nat) (M : Ms) (x1 : Int32) (res : Int32 × Ms) (hf : f_X8_price x1 M = some res) : Met l yX8_price wsX8_price ({ frames := 2, cells := 0, slots := 0, locals := 43 }) (va_Pc [.ref (a 0), .int (x1)] (fun U => U.heap.size = sz ∧ va_P (dC, dI) vwCl (wM cs a M) U.heap ∧ GE dC dI cs U ∧ va_D (fun _ => True) (wM cs a M))) (va_Qi (fun r (u : Ms) => r = res.1 ∧ u = res.2) (fun u t => va_P (dC, dI) vwCl ((fun u : Ms => (wM cs a u)) u) t.heap ∧ va_D (va_A (wM cs a M) sz) ((fun u : Ms => (wM cs a u)) u)) (va_A (wM cs a M) sz)) 0 0 (va_A (wM cs a M) sz) := by
  refine Met.ofW (cc := cX8_price) (maxL := 2) (ret := (some .int)) (by decide) rfl ?_
  intro p e s m args below meth c s₁ Bd hml hv
  obtain ⟨rfl, hsz, hP, G, hD0⟩ := hv
  have hts := atoms_spec (ws := wsX8_price) Bd.pre
  have hown : s.vm.findClass RX8 = some m.cls := findClass_of_methodNamed Bd.named
  have hlocks := Bd.notSynchronized
  have hx := Bd.exec
  have hb := Bd.bytes
  have hr := Bd.returns
  have C : CallFix p m c cX8_price 2 s _ wsX8_price RX8 := ⟨hx, hb, hml, hown, hts⟩
  obtain ⟨hK, hN⟩ := id G
  subst hsz
  have hD := hD0.self (sz := s.heap.size)
  generalize hAe : va_A (wM cs a M) s.heap.size = A at hD ⊢
  have hA : ∀ q : Nat, s.heap.size ≤ q → A q := fun q h => by rw [← hAe]; exact Or.inr h
  have hS : va_S A s.heap s.heap [] := va_S.rf
  have hR : RTi p l e ({ frames := 2, cells := 0, slots := 0, locals := 43 }) s m ([.ref (a 0), .int (x1)] : List Value).toArray below meth c cX8_price (MQ below (va_Qi (fun r (u : Ms) => r = res.1 ∧ u = res.2) (fun u t => va_P (dC, dI) vwCl ((fun u : Ms => (wM cs a u)) u) t.heap ∧ va_D A ((fun u : Ms => (wM cs a u)) u)) A) ([.ref (a 0), .int (x1)] : List Value).toArray s 0 0 A) (dC, dI) A (fun u : Ms => (wM cs a u)) res := fun H locs pc ls r u dd h hP hD hS => W.iret hx hb hr (fun t ht hW => ⟨⟨r, u, rfl, by cases h; exact ⟨rfl, rfl⟩, by rw [ht]; exact hP, hD⟩, hS.F ht⟩) hS.2.2 dd
  have hl := lv_entry ([.ref (a 0), .int (x1)]) (n := 2) (Nat.le_of_ble_eq_true rfl)
  rw [lg_entry_eq]
  generalize (lg_sl ([.ref (a 0), .int (x1)]) ++ List.replicate (2 - (lg_sl ([.ref (a 0), .int (x1)])).length) Slot.unset).toArray = ls at hl ⊢
  have hl : lv_has ls 2 [(0, .ref (a 0)), (1, .int (x1))] := hl
  unfold f_X8_price at hf
  refine lv_aload_n hx hb dX8_price_0 rfl (lv_at hl 0 rfl) ?_
  refine lv_iload_n hx hb dX8_price_1 rfl (lv_at hl 1 rfl) ?_
  obtain ⟨r2, hr2, hf⟩ := bn_e hf
  have hPc := hP.sub (ws' := (wM cs a M)) [0, 1, 2, 3, 4, 5, 6, 7, 8, 9, 10, 11] rfl
  refine vp_callSi (W.runV (As := [.int (x1)]) (rest := []) C (c_X8_isLoan l dC dI cs a M x1 r2 hr2) (cwV 1 hts gX8_price_X8_isLoan rfl rfl rfl (by decide +kernel) ⟨Nat.le_of_ble_eq_true rfl, Nat.le_of_ble_eq_true rfl⟩) ⟨(fun a U g mk q => ⟨q.1, q.2.1, GE.calling q.2.2⟩), va_recv hK hPc (ci := 8) (q0 := 0) rfl rfl, (fun U hU hW => ⟨rfl, by rw [hU]; exact hPc, GE.warm hW G⟩)⟩ rfl rfl hl.1 rfl (lv_room (Nat.le_of_ble_eq_true rfl)) dX8_price_2 ⟨Nat.le_of_ble_eq_true rfl, Nat.le_of_ble_eq_true rfl⟩) (fun qr2 hqr2 => ?_)
  obtain ⟨hqr2, hnr2⟩ := hqr2
  obtain rfl := hqr2.symm
  refine lv_if_eq (tgt := 44) hx hb dX8_price_5 (by decide) (fun c1 => ?_) (fun c1 => ?_)
  · replace hf := it_t c1 hf
    refine lv_aload_n hx hb dX8_price_44 rfl (lv_at hl 0 rfl) ?_
    obtain ⟨r45, hr45, hf⟩ := bn_e hf
    have hPc := hP.sub (ws' := (wM cs a M)) [0, 1, 2, 3, 4, 5, 6, 7, 8, 9, 10, 11] rfl
    have hDc := hD.sub (ws' := (wM cs a M)) [0, 1, 2, 3, 4, 5, 6, 7, 8, 9, 10, 11] (by decide) rfl
    have hFc := va_free (wc := (wM cs a M)) hD hS hA [0, 1, 2, 3, 4, 5, 6, 7, 8, 9, 10, 11] rfl
    refine va_calli (va_runV (As := []) (rest := []) C (c_X8_bad l dC dI cs a s.heap.size M r45 hr45) (cwV 0 hts gX8_price_X8_bad rfl rfl rfl (by decide +kernel) ⟨Nat.le_of_ble_eq_true rfl, Nat.le_of_ble_eq_true rfl⟩) ⟨(fun a U g mk q => ⟨q.1, q.2.1, q.2.2.1, GE.calling q.2.2.2.1, q.2.2.2.2⟩), va_recv hK hPc (ci := 8) (q0 := 0) rfl rfl, (fun U hU hW => ⟨rfl, by rw [hU], by rw [hU]; exact hPc, GE.warm hW G, hDc.weaken (fun _ _ _ _ => trivial)⟩)⟩ rfl rfl hl.1 rfl (lv_room (Nat.le_of_ble_eq_true rfl)) dX8_price_45 ⟨Nat.le_of_ble_eq_true rfl, Nat.le_of_ble_eq_true rfl⟩) hS (fun q _ h => hFc q h) hFc (fun q u t H1 locs ht hvm hw hB hz1 hk1 hS => ?_)
    obtain ⟨rfl, rfl⟩ := hw
    obtain ⟨hP1, hD1⟩ := hB
    rw [ht] at hP1
    obtain ⟨hP, hD⟩ := va_join (wr := []) (w1 := (wM cs a r45.2)) hP hD [0, 1, 2, 3, 4, 5, 6, 7, 8, 9, 10, 11] [] rfl rfl (by decide) (by decide) hk1 hFc hP1 hD1
    generalize H1 = H at hP hS ⊢
    have hP := hP.sub (ws' := (wM cs a r45.2)) [0, 1, 2, 3, 4, 5, 6, 7, 8, 9, 10, 11] rfl
    have hD := hD.sub (ws' := (wM cs a r45.2)) [0, 1, 2, 3, 4, 5, 6, 7, 8, 9, 10, 11] (by decide) rfl
    exact hR _ _ _ _ _ _ dX8_price_48 hf hP hD hS
  · replace hf := it_f c1 hf
    refine lv_aload_n hx hb dX8_price_8 rfl (lv_at hl 0 rfl) ?_
    refine lv_iload_n hx hb dX8_price_9 rfl (lv_at hl 1 rfl) ?_
    obtain ⟨r10, hr10, hf⟩ := bn_e hf
    have hPc := hP.sub (ws' := (wM cs a M)) [0, 1, 2, 3, 4, 5, 6, 7, 8, 9, 10, 11] rfl
    refine vp_callSi (W.runV (As := [.int (x1)]) (rest := []) C (c_X8_given l dC dI cs a M x1 r10 hr10) (cwV 1 hts gX8_price_X8_given rfl rfl rfl (by decide +kernel) ⟨Nat.le_of_ble_eq_true rfl, Nat.le_of_ble_eq_true rfl⟩) ⟨(fun a U g mk q => ⟨q.1, q.2.1, GE.calling q.2.2⟩), va_recv hK hPc (ci := 8) (q0 := 0) rfl rfl, (fun U hU hW => ⟨rfl, by rw [hU]; exact hPc, GE.warm hW G⟩)⟩ rfl rfl hl.1 rfl (lv_room (Nat.le_of_ble_eq_true rfl)) dX8_price_10 ⟨Nat.le_of_ble_eq_true rfl, Nat.le_of_ble_eq_true rfl⟩) (fun qr10 hqr10 => ?_)
    obtain rfl := hqr10.symm
    refine lv_aload_n hx hb dX8_price_13 rfl (lv_at hl 0 rfl) ?_
    refine va_get (D := (dC, dI)) (ci := 8) (v := .ref (a 1)) (C := RX8) (T := TX8) (N := 20) hx hb hts in_X8_price_X8 hown hK hP 0 rfl rfl 0 (by decide) (hts (.fieldLink RX8 7 "BackLoansModel" "now" "[I") (by decide +kernel)) (fun _ h9 => h9) rfl dX8_price_14 ?_
    refine lv_bipush (v := 26) hx hb dX8_price_17 (by decide) ?_
    refine lv_iconst (v := 5) hx hb dX8_price_19 (by decide) ?_
    refine lv_iload_n hx hb dX8_price_20 rfl (lv_at hl 1 rfl) ?_
    refine lv_imul hx hb dX8_price_21 ?_
    refine lv_iadd hx hb dX8_price_22 ?_
    refine lv_iconst (v := 4) hx hb dX8_price_23 (by decide) ?_
    refine lv_iadd hx hb dX8_price_24 ?_
    obtain ⟨hi2, hf⟩ := gi_e hf
    refine va_iald hx hb hK hP 1 0 rfl rfl hi2 dX8_price_25 ?_
    refine lv_imul hx hb dX8_price_26 ?_
    refine lv_aload_n hx hb dX8_price_27 rfl (lv_at hl 0 rfl) ?_
    refine va_get (D := (dC, dI)) (ci := 8) (v := .ref (a 1)) (C := RX8) (T := TX8) (N := 20) hx hb hts in_X8_price_X8 hown hK hP 0 rfl rfl 0 (by decide) (hts (.fieldLink RX8 7 "BackLoansModel" "now" "[I") (by decide +kernel)) (fun _ h9 => h9) rfl dX8_price_28 ?_
    refine lv_bipush (v := 26) hx hb dX8_price_31 (by decide) ?_
    refine lv_iconst (v := 5) hx hb dX8_price_33 (by decide) ?_
    refine lv_iload_n hx hb dX8_price_34 rfl (lv_at hl 1 rfl) ?_
    refine lv_imul hx hb dX8_price_35 ?_
    refine lv_iadd hx hb dX8_price_36 ?_
    refine lv_iconst (v := 2) hx hb dX8_price_37 (by decide) ?_
    refine lv_iadd hx hb dX8_price_38 ?_
    obtain ⟨hi3, hf⟩ := gi_e hf
    refine va_iald hx hb hK hP 1 0 rfl rfl hi3 dX8_price_39 ?_
    obtain ⟨hz4, hf⟩ := gz_e hf
    refine lv_idiv hx hb dX8_price_40 hz4 ?_
    refine lv_goto (tgt := 48) hx hb dX8_price_41 (by decide) ?_
    exact hR _ _ _ _ _ _ dX8_price_48 hf hP hD hS

def f_X8_lucky_88 (x0 : Int32) (x2 : Int32) (x3 : Int32) (x4 : Int32) (x5 : Int32) (x8 : Int32) (x9 : Int32) (s0 : Int64) (s1 : Int64) (K9 : Int64 → Int32 → Int32 → Option Int64) : Option Int64 :=
  lett (s0 * s1) fun x6_89 =>
  lett (x9 + 1) fun x9_91 =>
  K9 x6_89 x8 x9_91
set_option maxHeartbeats 4000000 in
set_option maxRecDepth 100000 in
theorem b_X8_lucky_88 {p : Program} {l : Launch} {e : Env} {s : State} {m : MethodId} {args : Array Value} {below : List Frame} {meth : Method} {c : Code} {Q : State → Prop} {dC : Nat → ClassId} {dI : Nat → Nat → Nat} {cs : Nat → ClassId} {res : Int64} (C : CallFix p m c cX8_lucky 11 s args wsX8_lucky RX8) (G : GE dC dI cs s) (hR : RPl p l e ({ frames := 1, cells := 0, slots := 0, locals := 21 }) s m args below meth c cX8_lucky Q res) (hP : va_P (dC, dI) vwCl ([] : va_W) s.heap) (x0 : Int32) (x2 : Int32) (x3 : Int32) (x4 : Int32) (x5 : Int32) (x8 : Int32) (x9 : Int32) (s0 : Int64) (s1 : Int64)  {K9 : Int64 → Int32 → Int32 → Option Int64} (hK9 : ∀ (x6 : Int64) (x8 : Int32) (x9 : Int32) (ls : Array Slot), lv_has ls 11 [(0, .int (x0)), (2, .int (x2)), (3, .int (x3)), (4, .int (x4)), (5, .int (x5)), (6, .long (x6)), (8, .int (x8)), (9, .int (x9))] → K9 x6 x8 x9 = some res → W p l e ({ frames := 1, cells := 0, slots := 0, locals := 21 }) s m args below meth c s.heap [] 0 0 Q (F0 m 9 ls [])) (ls : Array Slot) (hl : lv_has ls 11 [(0, .int (x0)), (2, .int (x2)), (3, .int (x3)), (4, .int (x4)), (5, .int (x5)), (8, .int (x8)), (9, .int (x9))]) (hf : f_X8_lucky_88 x0 x2 x3 x4 x5 x8 x9 s0 s1 K9 = some res) : W p l e ({ frames := 1, cells := 0, slots := 0, locals := 21 }) s m args below meth c s.heap [] 0 0 Q (F0 m 88 ls [.long (s1), .long (s0)]) := by
  obtain ⟨hx, hb, hml, hown, hts⟩ := id C
  obtain ⟨hK, hN⟩ := id G
  unfold f_X8_lucky_88 at hf
  refine lv_lmul hx hb dX8_lucky_88 ?_
  refine lv_topl (fun x6_89 ex6_89 => ?_)
  replace hf := lett_s ex6_89 hf
  refine lv_lstore (lv' := [(6, .long (x6_89)), (0, .int (x0)), (2, .int (x2)), (3, .int (x3)), (4, .int (x4)), (5, .int (x5)), (8, .int (x8)), (9, .int (x9))]) hx hb dX8_lucky_89 hl (by decide) rfl (fun ls hl => ?_)
  obtain ⟨x9_91, ex9_91⟩ : ∃ y : Int32, y = (x9 + 1) := ⟨_, rfl⟩
  replace hf := lett_s ex9_91 hf
  refine lv_iinc (v := x9_91) (lv' := [(9, .int (x9_91)), (6, .long (x6_89)), (0, .int (x0)), (2, .int (x2)), (3, .int (x3)), (4, .int (x4)), (5, .int (x5)), (8, .int (x8))]) hx hb dX8_lucky_91 hl (k := 7) rfl (by rw [ex9_91]; rfl) (by decide) rfl (fun ls hl => ?_)
  refine lv_goto (tgt := 9) hx hb dX8_lucky_94 (by decide) ?_
  exact hK9 x6_89 x8 x9_91 _ (lv_sub hl [2, 3, 4, 5, 6, 1, 7, 0] rfl) hf
def f_X8_lucky_53 (x0 : Int32) (x2 : Int32) (x3 : Int32) (x4 : Int32) (x5 : Int32) (x6 : Int64) (x9 : Int32) (x10 : Int32) (s0 : Int32) (K9 : Int64 → Int32 → Int32 → Option Int64) : Option Int64 :=
  if x3 ≤ s0 then (
    lett (s0 - x3) fun x8_67 =>
    if x10 = 0 then (
      f_X8_lucky_88 x0 x2 x3 x4 x5 x8_67 x9 x6 ((((10 : Int32) - x5)).toInt64) K9
    ) else (
      f_X8_lucky_88 x0 x2 x3 x4 x5 x8_67 x9 x6 ((x5).toInt64) K9
    )
  ) else (
    some (0 : Int64)
  )
set_option maxHeartbeats 4000000 in
set_option maxRecDepth 100000 in
theorem b_X8_lucky_53 {p : Program} {l : Launch} {e : Env} {s : State} {m : MethodId} {args : Array Value} {below : List Frame} {meth : Method} {c : Code} {Q : State → Prop} {dC : Nat → ClassId} {dI : Nat → Nat → Nat} {cs : Nat → ClassId} {res : Int64} (C : CallFix p m c cX8_lucky 11 s args wsX8_lucky RX8) (G : GE dC dI cs s) (hR : RPl p l e ({ frames := 1, cells := 0, slots := 0, locals := 21 }) s m args below meth c cX8_lucky Q res) (hP : va_P (dC, dI) vwCl ([] : va_W) s.heap) (x0 : Int32) (x2 : Int32) (x3 : Int32) (x4 : Int32) (x5 : Int32) (x6 : Int64) (x9 : Int32) (x10 : Int32) (s0 : Int32)  {K9 : Int64 → Int32 → Int32 → Option Int64} (hK9 : ∀ (x6 : Int64) (x8 : Int32) (x9 : Int32) (ls : Array Slot), lv_has ls 11 [(0, .int (x0)), (2, .int (x2)), (3, .int (x3)), (4, .int (x4)), (5, .int (x5)), (6, .long (x6)), (8, .int (x8)), (9, .int (x9))] → K9 x6 x8 x9 = some res → W p l e ({ frames := 1, cells := 0, slots := 0, locals := 21 }) s m args below meth c s.heap [] 0 0 Q (F0 m 9 ls [])) (ls : Array Slot) (hl : lv_has ls 11 [(0, .int (x0)), (2, .int (x2)), (3, .int (x3)), (4, .int (x4)), (5, .int (x5)), (6, .long (x6)), (9, .int (x9)), (10, .int (x10))]) (hf : f_X8_lucky_53 x0 x2 x3 x4 x5 x6 x9 x10 s0 K9 = some res) : W p l e ({ frames := 1, cells := 0, slots := 0, locals := 21 }) s m args below meth c s.heap [] 0 0 Q (F0 m 53 ls [.int (s0)]) := by
  obtain ⟨hx, hb, hml, hown, hts⟩ := id C
  obtain ⟨hK, hN⟩ := id G
  unfold f_X8_lucky_53 at hf
  refine lv_istore (lv' := [(8, .int (s0)), (0, .int (x0)), (2, .int (x2)), (3, .int (x3)), (4, .int (x4)), (5, .int (x5)), (6, .long (x6)), (9, .int (x9)), (10, .int (x10))]) hx hb dX8_lucky_53 hl (by decide) rfl (fun ls hl => ?_)
  refine lv_iload hx hb dX8_lucky_55 (lv_at hl 0 rfl) ?_
  refine lv_iload_n hx hb dX8_lucky_57 rfl (lv_at hl 3 rfl) ?_
  refine lv_icmp_ge (tgt := 63) hx hb dX8_lucky_58 (by decide) (fun c1 => ?_) (fun c1 => ?_)
  · replace hf := it_t c1 hf
    refine lv_iload hx hb dX8_lucky_63 (lv_at hl 0 rfl) ?_
    refine lv_iload_n hx hb dX8_lucky_65 rfl (lv_at hl 3 rfl) ?_
    refine lv_isub hx hb dX8_lucky_66 ?_
    refine lv_topi (fun x8_67 ex8_67 => ?_)
    replace hf := lett_s ex8_67 hf
    refine lv_istore (lv' := [(8, .int (x8_67)), (0, .int (x0)), (2, .int (x2)), (3, .int (x3)), (4, .int (x4)), (5, .int (x5)), (6, .long (x6)), (9, .int (x9)), (10, .int (x10))]) hx hb dX8_lucky_67 hl (by decide) rfl (fun ls hl => ?_)
    refine lv_lload hx hb dX8_lucky_69 (lv_at hl 6 rfl) ?_
    refine lv_iload hx hb dX8_lucky_71 (lv_at hl 8 rfl) ?_
    refine lv_if_eq (tgt := 82) hx hb dX8_lucky_73 (by decide) (fun c2 => ?_) (fun c2 => ?_)
    · replace hf := it_t c2 hf
      refine lv_bipush (v := 10) hx hb dX8_lucky_82 (by decide) ?_
      refine lv_iload hx hb dX8_lucky_84 (lv_at hl 5 rfl) ?_
      refine lv_isub hx hb dX8_lucky_86 ?_
      refine lv_i2l hx hb dX8_lucky_87 rfl ?_
      exact b_X8_lucky_88 C G hR hP x0 x2 x3 x4 x5 x8_67 x9 x6 ((((10 : Int32) - x5)).toInt64) hK9 _ (lv_sub hl [1, 2, 3, 4, 5, 0, 7] rfl) hf
    · replace hf := it_f c2 hf
      refine lv_iload hx hb dX8_lucky_76 (lv_at hl 5 rfl) ?_
      refine lv_i2l hx hb dX8_lucky_78 rfl ?_
      refine lv_goto (tgt := 88) hx hb dX8_lucky_79 (by decide) ?_
      exact b_X8_lucky_88 C G hR hP x0 x2 x3 x4 x5 x8_67 x9 x6 ((x5).toInt64) hK9 _ (lv_sub hl [1, 2, 3, 4, 5, 0, 7] rfl) hf
  · replace hf := it_f c1 hf
    refine lv_lconst (v := 0) hx hb dX8_lucky_61 (by decide) ?_
    exact hR _ _ _ dX8_lucky_62 hf
def f_X8_lucky_31 (x0 : Int32) (x2 : Int32) (x3 : Int32) (x4 : Int32) (x5 : Int32) (x6 : Int64) (x8 : Int32) (x9 : Int32) (s0 : Int32) (K9 : Int64 → Int32 → Int32 → Option Int64) : Option Int64 :=
  if s0 = 0 then (
    f_X8_lucky_53 x0 x2 x3 x4 x5 x6 x9 s0 x8 K9
  ) else (
    bn (f_X8_least (9999 : Int32) (x8 + x2)) fun r45 =>
    f_X8_lucky_53 x0 x2 x3 x4 x5 x6 x9 s0 r45 K9
  )
set_option maxHeartbeats 4000000 in
set_option maxRecDepth 100000 in
theorem b_X8_lucky_31 {p : Program} {l : Launch} {e : Env} {s : State} {m : MethodId} {args : Array Value} {below : List Frame} {meth : Method} {c : Code} {Q : State → Prop} {dC : Nat → ClassId} {dI : Nat → Nat → Nat} {cs : Nat → ClassId} {res : Int64} (C : CallFix p m c cX8_lucky 11 s args wsX8_lucky RX8) (G : GE dC dI cs s) (hR : RPl p l e ({ frames := 1, cells := 0, slots := 0, locals := 21 }) s m args below meth c cX8_lucky Q res) (hP : va_P (dC, dI) vwCl ([] : va_W) s.heap) (x0 : Int32) (x2 : Int32) (x3 : Int32) (x4 : Int32) (x5 : Int32) (x6 : Int64) (x8 : Int32) (x9 : Int32) (s0 : Int32)  {K9 : Int64 → Int32 → Int32 → Option Int64} (hK9 : ∀ (x6 : Int64) (x8 : Int32) (x9 : Int32) (ls : Array Slot), lv_has ls 11 [(0, .int (x0)), (2, .int (x2)), (3, .int (x3)), (4, .int (x4)), (5, .int (x5)), (6, .long (x6)), (8, .int (x8)), (9, .int (x9))] → K9 x6 x8 x9 = some res → W p l e ({ frames := 1, cells := 0, slots := 0, locals := 21 }) s m args below meth c s.heap [] 0 0 Q (F0 m 9 ls [])) (ls : Array Slot) (hl : lv_has ls 11 [(0, .int (x0)), (2, .int (x2)), (3, .int (x3)), (4, .int (x4)), (5, .int (x5)), (6, .long (x6)), (8, .int (x8)), (9, .int (x9))]) (hf : f_X8_lucky_31 x0 x2 x3 x4 x5 x6 x8 x9 s0 K9 = some res) : W p l e ({ frames := 1, cells := 0, slots := 0, locals := 21 }) s m args below meth c s.heap [] 0 0 Q (F0 m 31 ls [.int (s0)]) := by
  obtain ⟨hx, hb, hml, hown, hts⟩ := id C
  obtain ⟨hK, hN⟩ := id G
  unfold f_X8_lucky_31 at hf
  refine lv_istore (lv' := [(10, .int (s0)), (0, .int (x0)), (2, .int (x2)), (3, .int (x3)), (4, .int (x4)), (5, .int (x5)), (6, .long (x6)), (8, .int (x8)), (9, .int (x9))]) hx hb dX8_lucky_31 hl (by decide) rfl (fun ls hl => ?_)
  refine lv_iload hx hb dX8_lucky_33 (lv_at hl 0 rfl) ?_
  refine lv_if_eq (tgt := 51) hx hb dX8_lucky_35 (by decide) (fun c1 => ?_) (fun c1 => ?_)
  · replace hf := it_t c1 hf
    refine lv_iload hx hb dX8_lucky_51 (lv_at hl 7 rfl) ?_
    exact b_X8_lucky_53 C G hR hP x0 x2 x3 x4 x5 x6 x9 s0 x8 hK9 _ (lv_sub hl [1, 2, 3, 4, 5, 6, 8, 0] rfl) hf
  · replace hf := it_f c1 hf
    refine lv_sipush (v := 9999) hx hb dX8_lucky_38 (by decide) ?_
    refine lv_iload hx hb dX8_lucky_41 (lv_at hl 7 rfl) ?_
    refine lv_iload_n hx hb dX8_lucky_43 rfl (lv_at hl 2 rfl) ?_
    refine lv_iadd hx hb dX8_lucky_44 ?_
    obtain ⟨r45, hr45, hf⟩ := bn_e hf
    have hPc := hP.sub (ws' := ([] : va_W)) [] rfl
    refine vp_callSi (W.runS (As := [.int ((9999 : Int32)), .int ((x8 + x2))]) (rest := []) C (c_X8_least l dC dI cs (9999 : Int32) (x8 + x2) r45 hr45) (va_cwS 2 hts gX8_lucky_X8_least rfl rfl rfl (by decide +kernel) ⟨Nat.le_of_ble_eq_true rfl, Nat.le_of_ble_eq_true rfl⟩) ⟨(fun a U g mk q => ⟨q.1, q.2.1, GE.calling q.2.2⟩), (fun U hU hW => ⟨rfl, by rw [hU]; exact hPc, GE.warm hW G⟩)⟩ rfl rfl hl.1 rfl (lv_room (Nat.le_of_ble_eq_true rfl)) dX8_lucky_45 ⟨Nat.le_of_ble_eq_true rfl, Nat.le_of_ble_eq_true rfl⟩) (fun qr45 hqr45 => ?_)
    obtain rfl := hqr45.symm
    refine lv_goto (tgt := 53) hx hb dX8_lucky_48 (by decide) ?_
    exact b_X8_lucky_53 C G hR hP x0 x2 x3 x4 x5 x6 x9 s0 r45 hK9 _ (lv_sub hl [1, 2, 3, 4, 5, 6, 8, 0] rfl) hf
def f_X8_lucky_9 (x0 : Int32) (x2 : Int32) (x3 : Int32) (x4 : Int32) (x5 : Int32) (x6 : Int64) (x8 : Int32) (x9 : Int32) (K9 : Int64 → Int32 → Int32 → Option Int64) : Option Int64 :=
  if x4 ≤ x9 then (
    some x6
  ) else (
    if ((x0 >>> (x9 &&& 31)) &&& (1 : Int32)) = (1 : Int32) then (
      f_X8_lucky_31 x0 x2 x3 x4 x5 x6 x8 x9 (1 : Int32) K9
    ) else (
      f_X8_lucky_31 x0 x2 x3 x4 x5 x6 x8 x9 (0 : Int32) K9
    )
  )
set_option maxHeartbeats 4000000 in
set_option maxRecDepth 100000 in
theorem b_X8_lucky_9 {p : Program} {l : Launch} {e : Env} {s : State} {m : MethodId} {args : Array Value} {below : List Frame} {meth : Method} {c : Code} {Q : State → Prop} {dC : Nat → ClassId} {dI : Nat → Nat → Nat} {cs : Nat → ClassId} {res : Int64} (C : CallFix p m c cX8_lucky 11 s args wsX8_lucky RX8) (G : GE dC dI cs s) (hR : RPl p l e ({ frames := 1, cells := 0, slots := 0, locals := 21 }) s m args below meth c cX8_lucky Q res) (hP : va_P (dC, dI) vwCl ([] : va_W) s.heap) (x0 : Int32) (x2 : Int32) (x3 : Int32) (x4 : Int32) (x5 : Int32) (x6 : Int64) (x8 : Int32) (x9 : Int32)  {K9 : Int64 → Int32 → Int32 → Option Int64} (hK9 : ∀ (x6 : Int64) (x8 : Int32) (x9 : Int32) (ls : Array Slot), lv_has ls 11 [(0, .int (x0)), (2, .int (x2)), (3, .int (x3)), (4, .int (x4)), (5, .int (x5)), (6, .long (x6)), (8, .int (x8)), (9, .int (x9))] → K9 x6 x8 x9 = some res → W p l e ({ frames := 1, cells := 0, slots := 0, locals := 21 }) s m args below meth c s.heap [] 0 0 Q (F0 m 9 ls [])) (ls : Array Slot) (hl : lv_has ls 11 [(0, .int (x0)), (2, .int (x2)), (3, .int (x3)), (4, .int (x4)), (5, .int (x5)), (6, .long (x6)), (8, .int (x8)), (9, .int (x9))]) (hf : f_X8_lucky_9 x0 x2 x3 x4 x5 x6 x8 x9 K9 = some res) : W p l e ({ frames := 1, cells := 0, slots := 0, locals := 21 }) s m args below meth c s.heap [] 0 0 Q (F0 m 9 ls []) := by
  obtain ⟨hx, hb, hml, hown, hts⟩ := id C
  obtain ⟨hK, hN⟩ := id G
  unfold f_X8_lucky_9 at hf
  refine lv_iload hx hb dX8_lucky_9 (lv_at hl 7 rfl) ?_
  refine lv_iload hx hb dX8_lucky_11 (lv_at hl 3 rfl) ?_
  refine lv_icmp_ge (tgt := 97) hx hb dX8_lucky_13 (by decide) (fun c1 => ?_) (fun c1 => ?_)
  · replace hf := it_t c1 hf
    refine lv_lload hx hb dX8_lucky_97 (lv_at hl 5 rfl) ?_
    exact hR _ _ _ dX8_lucky_99 hf
  · replace hf := it_f c1 hf
    refine lv_iload_n hx hb dX8_lucky_16 rfl (lv_at hl 0 rfl) ?_
    refine lv_iload hx hb dX8_lucky_17 (lv_at hl 7 rfl) ?_
    refine lv_ishr hx hb dX8_lucky_19 ?_
    refine lv_iconst (v := 1) hx hb dX8_lucky_20 (by decide) ?_
    refine lv_iand hx hb dX8_lucky_21 ?_
    refine lv_iconst (v := 1) hx hb dX8_lucky_22 (by decide) ?_
    refine lv_icmp_ne (tgt := 30) hx hb dX8_lucky_23 (by decide) (fun c2 => ?_) (fun c2 => ?_)
    · replace hf := it_f c2 hf
      refine lv_iconst (v := 0) hx hb dX8_lucky_30 (by decide) ?_
      exact b_X8_lucky_31 C G hR hP x0 x2 x3 x4 x5 x6 x8 x9 (0 : Int32) hK9 _ (lv_sub hl [0, 1, 2, 3, 4, 5, 6, 7] rfl) hf
    · replace hf := it_t c2 hf
      refine lv_iconst (v := 1) hx hb dX8_lucky_26 (by decide) ?_
      refine lv_goto (tgt := 31) hx hb dX8_lucky_27 (by decide) ?_
      exact b_X8_lucky_31 C G hR hP x0 x2 x3 x4 x5 x6 x8 x9 (1 : Int32) hK9 _ (lv_sub hl [0, 1, 2, 3, 4, 5, 6, 7] rfl) hf
def l_X8_lucky_9 (x0 : Int32) (x2 : Int32) (x3 : Int32) (x4 : Int32) (x5 : Int32)  (n : Nat) (x6 : Int64) (x8 : Int32) (x9 : Int32) : Option Int64 := itr (fun (k : Int64 × Int32 × Int32 → Option Int64) (z : Int64 × Int32 × Int32) => f_X8_lucky_9 x0 x2 x3 x4 x5 z.1 z.2.1 z.2.2 (fun x6 x8 x9 => k (x6, x8, x9))) n (x6, x8, x9)
set_option maxHeartbeats 4000000 in
set_option maxRecDepth 100000 in
theorem w_X8_lucky_9 {p : Program} {l : Launch} {e : Env} {s : State} {m : MethodId} {args : Array Value} {below : List Frame} {meth : Method} {c : Code} {Q : State → Prop} {dC : Nat → ClassId} {dI : Nat → Nat → Nat} {cs : Nat → ClassId} {res : Int64} (C : CallFix p m c cX8_lucky 11 s args wsX8_lucky RX8) (G : GE dC dI cs s) (hR : RPl p l e ({ frames := 1, cells := 0, slots := 0, locals := 21 }) s m args below meth c cX8_lucky Q res) (hP : va_P (dC, dI) vwCl ([] : va_W) s.heap) (x0 : Int32) (x2 : Int32) (x3 : Int32) (x4 : Int32) (x5 : Int32)    : ∀ (n : Nat) (x6 : Int64) (x8 : Int32) (x9 : Int32) (ls : Array Slot), lv_has ls 11 [(0, .int (x0)), (2, .int (x2)), (3, .int (x3)), (4, .int (x4)), (5, .int (x5)), (6, .long (x6)), (8, .int (x8)), (9, .int (x9))] → l_X8_lucky_9 x0 x2 x3 x4 x5 n x6 x8 x9 = some res → W p l e ({ frames := 1, cells := 0, slots := 0, locals := 21 }) s m args below meth c s.heap [] 0 0 Q (F0 m 9 ls []) := by
  intro n
  induction n with
  | zero => intro x6 x8 x9 ls hl hf; exact absurd hf (by simp [l_X8_lucky_9, itr])
  | succ n ih =>
    intro x6 x8 x9 ls hl hf
    replace hf : f_X8_lucky_9 x0 x2 x3 x4 x5 x6 x8 x9 (fun x6 x8 x9 => l_X8_lucky_9 x0 x2 x3 x4 x5 n x6 x8 x9) = some res := by rw [← hf]; unfold l_X8_lucky_9; rw [itr_s]
    exact b_X8_lucky_9 C G hR hP x0 x2 x3 x4 x5 x6 x8 x9 (K9 := fun x6 x8 x9 => l_X8_lucky_9 x0 x2 x3 x4 x5 n x6 x8 x9) (fun x6 x8 x9 ls hl hf => ih x6 x8 x9 ls hl hf) ls hl hf
def f_X8_lucky (x0 : Int32) (x1 : Int32) (x2 : Int32) (x3 : Int32) (x4 : Int32) (x5 : Int32)  : Option Int64 :=
  lett (1 : Int64) fun x6_1 =>
  lett (0 : Int32) fun x9_7 =>
  l_X8_lucky_9 x0 x2 x3 x4 x5 FU x6_1 x1 x9_7
set_option maxHeartbeats 4000000 in
set_option maxRecDepth 100000 in
theorem c_X8_lucky (l : Launch) (dC : Nat → ClassId) (dI : Nat → Nat → Nat) (cs : Nat → ClassId)  (x0 : Int32) (x1 : Int32) (x2 : Int32) (x3 : Int32) (x4 : Int32) (x5 : Int32) (res : Int64) (hf : f_X8_lucky x0 x1 x2 x3 x4 x5 = some res) : Met l yX8_lucky wsX8_lucky ({ frames := 1, cells := 0, slots := 0, locals := 21 }) (va_Pc [.int (x0), .int (x1), .int (x2), .int (x3), .int (x4), .int (x5)] (fun U => va_P (dC, dI) vwCl ([] : va_W) U.heap ∧ GE dC dI cs U)) (vp_Sl (fun r => r = res)) 0 0 (fun _ => False) := by
  refine Met.ofW (cc := cX8_lucky) (maxL := 11) (ret := (some .long)) (by decide) rfl ?_
  intro p e s m args below meth c s₁ Bd hml hv
  obtain ⟨rfl, hP, G⟩ := hv
  have hts := atoms_spec (ws := wsX8_lucky) Bd.pre
  have hown : s.vm.findClass RX8 = some m.cls := findClass_of_methodNamed Bd.named
  have hlocks := Bd.notSynchronized
  have hx := Bd.exec
  have hb := Bd.bytes
  have hr := Bd.returns
  have C : CallFix p m c cX8_lucky 11 s _ wsX8_lucky RX8 := ⟨hx, hb, hml, hown, hts⟩
  obtain ⟨hK, hN⟩ := id G
  have hR : RPl p l e ({ frames := 1, cells := 0, slots := 0, locals := 21 }) s m ([.int (x0), .int (x1), .int (x2), .int (x3), .int (x4), .int (x5)] : List Value).toArray below meth c cX8_lucky (MQ below (vp_Sl (fun r => r = res)) ([.int (x0), .int (x1), .int (x2), .int (x3), .int (x4), .int (x5)] : List Value).toArray s 0 0 (fun _ => False)) res := fun pc ls r dd h => W.lret hx hb hr (fun t ht hW => ⟨r, rfl, Option.some.inj h, ht⟩) (fun q hq => by cases hq) dd
  have hl := lv_entry ([.int (x0), .int (x1), .int (x2), .int (x3), .int (x4), .int (x5)]) (n := 11) (Nat.le_of_ble_eq_true rfl)
  rw [lg_entry_eq]
  generalize (lg_sl ([.int (x0), .int (x1), .int (x2), .int (x3), .int (x4), .int (x5)]) ++ List.replicate (11 - (lg_sl ([.int (x0), .int (x1), .int (x2), .int (x3), .int (x4), .int (x5)])).length) Slot.unset).toArray = ls at hl ⊢
  have hl : lv_has ls 11 [(0, .int (x0)), (1, .int (x1)), (2, .int (x2)), (3, .int (x3)), (4, .int (x4)), (5, .int (x5))] := hl
  unfold f_X8_lucky at hf
  refine lv_lconst (v := 1) hx hb dX8_lucky_0 (by decide) ?_
  refine lv_topl (fun x6_1 ex6_1 => ?_)
  replace hf := lett_s ex6_1 hf
  refine lv_lstore (lv' := [(6, .long (x6_1)), (0, .int (x0)), (1, .int (x1)), (2, .int (x2)), (3, .int (x3)), (4, .int (x4)), (5, .int (x5))]) hx hb dX8_lucky_1 hl (by decide) rfl (fun ls hl => ?_)
  refine lv_iload_n hx hb dX8_lucky_3 rfl (lv_at hl 2 rfl) ?_
  refine lv_istore (lv' := [(8, .int (x1)), (6, .long (x6_1)), (0, .int (x0)), (1, .int (x1)), (2, .int (x2)), (3, .int (x3)), (4, .int (x4)), (5, .int (x5))]) hx hb dX8_lucky_4 hl (by decide) rfl (fun ls hl => ?_)
  refine lv_iconst (v := 0) hx hb dX8_lucky_6 (by decide) ?_
  refine lv_topi (fun x9_7 ex9_7 => ?_)
  replace hf := lett_s ex9_7 hf
  refine lv_istore (lv' := [(9, .int (x9_7)), (8, .int (x1)), (6, .long (x6_1)), (0, .int (x0)), (1, .int (x1)), (2, .int (x2)), (3, .int (x3)), (4, .int (x4)), (5, .int (x5))]) hx hb dX8_lucky_7 hl (by decide) rfl (fun ls hl => ?_)
  exact w_X8_lucky_9 C G hR hP x0 x2 x3 x4 x5 FU x6_1 x1 x9_7 _ (lv_sub hl [3, 5, 6, 7, 8, 2, 1, 0] rfl) hf

theorem in_X8_tells_X8 : ∀ w ∈ wsX80, w ∈ wsX8_tells := by decide +kernel
def f_X8_tells_6 (x1 : Int64) (x3 : Int64) (x5 : Int64) (x7 : Int64) (M : Ms) (K6 : Int64 → Int64 → Option Ms) (K31 : Int64 → Option Ms) : Option Ms :=
  if (lg_cmp x7 (0 : Int64)) = 0 then (
    K31 x5
  ) else (
    gzl (x7) <|
    lett (x5 - x5 / x7 * x7) fun x9_18 =>
    K6 x7 x9_18
  )
set_option maxHeartbeats 4000000 in
set_option maxRecDepth 100000 in
theorem b_X8_tells_6 {p : Program} {l : Launch} {e : Env} {s : State} {m : MethodId} {args : Array Value} {below : List Frame} {meth : Method} {c : Code} {Q : State → Prop} {dC : Nat → ClassId} {dI : Nat → Nat → Nat} {cs : Nat → ClassId} {A : Nat → Prop} {a : Nat → Nat} {res : Ms} (C : CallFix p m c cX8_tells 11 s args wsX8_tells RX8) (G : GE dC dI cs s) (hA : ∀ q : Nat, s.heap.size ≤ q → A q) (hR : RTv p l e ({ frames := 0, cells := 0, slots := 0, locals := 0 }) s m args below meth c cX8_tells Q (dC, dI) A (fun u : Ms => (wM cs a u)) res) (x1 : Int64) (x3 : Int64) (x5 : Int64) (x7 : Int64) (M : Ms) {K6 : Int64 → Int64 → Option Ms} {K31 : Int64 → Option Ms} (hK6 : ∀ (x5 : Int64) (x7 : Int64) (H : Heap) (locs : List Loc) (ls : Array Slot), lv_has ls 11 [(0, .ref (a 0)), (1, .long (x1)), (3, .long (x3)), (5, .long (x5)), (7, .long (x7))] → va_P (dC, dI) vwCl (wM cs a M) H → va_D A (wM cs a M) → va_S A s.heap H locs → K6 x5 x7 = some res → W p l e ({ frames := 0, cells := 0, slots := 0, locals := 0 }) s m args below meth c H locs 0 0 Q (F0 m 6 ls [])) (hK31 : ∀ (x5 : Int64) (H : Heap) (locs : List Loc) (ls : Array Slot), lv_has ls 11 [(0, .ref (a 0)), (1, .long (x1)), (3, .long (x3)), (5, .long (x5))] → va_P (dC, dI) vwCl (wM cs a M) H → va_D A (wM cs a M) → va_S A s.heap H locs → K31 x5 = some res → W p l e ({ frames := 0, cells := 0, slots := 0, locals := 0 }) s m args below meth c H locs 0 0 Q (F0 m 31 ls [])) (H : Heap) (locs : List Loc) (ls : Array Slot) (hl : lv_has ls 11 [(0, .ref (a 0)), (1, .long (x1)), (3, .long (x3)), (5, .long (x5)), (7, .long (x7))]) (hP : va_P (dC, dI) vwCl (wM cs a M) H) (hD : va_D A (wM cs a M)) (hS : va_S A s.heap H locs) (hf : f_X8_tells_6 x1 x3 x5 x7 M K6 K31 = some res) : W p l e ({ frames := 0, cells := 0, slots := 0, locals := 0 }) s m args below meth c H locs 0 0 Q (F0 m 6 ls []) := by
  obtain ⟨hx, hb, hml, hown, hts⟩ := id C
  obtain ⟨hK, hN⟩ := id G
  unfold f_X8_tells_6 at hf
  refine lv_lload hx hb dX8_tells_6 (lv_at hl 4 rfl) ?_
  refine lv_lconst (v := 0) hx hb dX8_tells_8 (by decide) ?_
  refine W.lcmp hx hb dX8_tells_9 ?_
  refine lv_if_eq (tgt := 31) hx hb dX8_tells_10 (by decide) (fun c1 => ?_) (fun c1 => ?_)
  · replace hf := it_t c1 hf
    exact hK31 x5 _ _ _ (lv_sub hl [0, 1, 2, 3] rfl) hP hD hS hf
  · replace hf := it_f c1 hf
    refine lv_lload hx hb dX8_tells_13 (lv_at hl 3 rfl) ?_
    refine lv_lload hx hb dX8_tells_15 (lv_at hl 4 rfl) ?_
    obtain ⟨hz2, hf⟩ := gzl_e hf
    refine lv_lrem hx hb dX8_tells_17 hz2 ?_
    refine lv_topl (fun x9_18 ex9_18 => ?_)
    replace hf := lett_s ex9_18 hf
    refine lv_lstore (lv' := [(9, .long (x9_18)), (0, .ref (a 0)), (1, .long (x1)), (3, .long (x3)), (5, .long (x5)), (7, .long (x7))]) hx hb dX8_tells_18 hl (by decide) rfl (fun ls hl => ?_)
    refine lv_lload hx hb dX8_tells_20 (lv_at hl 5 rfl) ?_
    refine lv_lstore (lv' := [(5, .long (x7)), (9, .long (x9_18)), (0, .ref (a 0)), (1, .long (x1)), (3, .long (x3)), (7, .long (x7))]) hx hb dX8_tells_22 hl (by decide) rfl (fun ls hl => ?_)
    refine lv_lload hx hb dX8_tells_24 (lv_at hl 1 rfl) ?_
    refine lv_lstore (lv' := [(7, .long (x9_18)), (5, .long (x7)), (9, .long (x9_18)), (0, .ref (a 0)), (1, .long (x1)), (3, .long (x3))]) hx hb dX8_tells_26 hl (by decide) rfl (fun ls hl => ?_)
    refine lv_goto (tgt := 6) hx hb dX8_tells_28 (by decide) ?_
    exact hK6 x7 x9_18 _ _ _ (lv_sub hl [3, 4, 5, 1, 0] rfl) hP hD hS hf
def l_X8_tells_6 (x1 : Int64) (x3 : Int64) (M : Ms) (K31 : Int64 → Option Ms) (n : Nat) (x5 : Int64) (x7 : Int64) : Option Ms := itr (fun (k : Int64 × Int64 → Option Ms) (z : Int64 × Int64) => f_X8_tells_6 x1 x3 z.1 z.2 M (fun x5 x7 => k (x5, x7)) K31) n (x5, x7)
set_option maxHeartbeats 4000000 in
set_option maxRecDepth 100000 in
theorem w_X8_tells_6 {p : Program} {l : Launch} {e : Env} {s : State} {m : MethodId} {args : Array Value} {below : List Frame} {meth : Method} {c : Code} {Q : State → Prop} {dC : Nat → ClassId} {dI : Nat → Nat → Nat} {cs : Nat → ClassId} {A : Nat → Prop} {a : Nat → Nat} {res : Ms} (C : CallFix p m c cX8_tells 11 s args wsX8_tells RX8) (G : GE dC dI cs s) (hA : ∀ q : Nat, s.heap.size ≤ q → A q) (hR : RTv p l e ({ frames := 0, cells := 0, slots := 0, locals := 0 }) s m args below meth c cX8_tells Q (dC, dI) A (fun u : Ms => (wM cs a u)) res) (x1 : Int64) (x3 : Int64) (M : Ms) {K31 : Int64 → Option Ms} (hK31 : ∀ (x5 : Int64) (H : Heap) (locs : List Loc) (ls : Array Slot), lv_has ls 11 [(0, .ref (a 0)), (1, .long (x1)), (3, .long (x3)), (5, .long (x5))] → va_P (dC, dI) vwCl (wM cs a M) H → va_D A (wM cs a M) → va_S A s.heap H locs → K31 x5 = some res → W p l e ({ frames := 0, cells := 0, slots := 0, locals := 0 }) s m args below meth c H locs 0 0 Q (F0 m 31 ls [])) : ∀ (n : Nat) (x5 : Int64) (x7 : Int64) (H : Heap) (locs : List Loc) (ls : Array Slot), lv_has ls 11 [(0, .ref (a 0)), (1, .long (x1)), (3, .long (x3)), (5, .long (x5)), (7, .long (x7))] → va_P (dC, dI) vwCl (wM cs a M) H → va_D A (wM cs a M) → va_S A s.heap H locs → l_X8_tells_6 x1 x3 M K31 n x5 x7 = some res → W p l e ({ frames := 0, cells := 0, slots := 0, locals := 0 }) s m args below meth c H locs 0 0 Q (F0 m 6 ls []) := by
  intro n
  induction n with
  | zero => intro x5 x7 H locs ls hl hP hD hS hf; exact absurd hf (by simp [l_X8_tells_6, itr])
  | succ n ih =>
    intro x5 x7 H locs ls hl hP hD hS hf
    replace hf : f_X8_tells_6 x1 x3 x5 x7 M (fun x5 x7 => l_X8_tells_6 x1 x3 M K31 n x5 x7) K31 = some res := by rw [← hf]; unfold l_X8_tells_6; rw [itr_s]
    exact b_X8_tells_6 C G hA hR x1 x3 x5 x7 M (K6 := fun x5 x7 => l_X8_tells_6 x1 x3 M K31 n x5 x7) (fun x5 x7 H locs ls hl hP hD hS hf => ih x5 x7 H locs ls hl hP hD hS hf) hK31 H locs ls hl hP hD hS hf
def f_X8_tells_31 (x1 : Int64) (x3 : Int64) (x5 : Int64) (M : Ms)  : Option Ms :=
  gzl (x5) <|
  lett ((M.1, vp_updL M.2.1 0 ((x1 / x5)), M.2.2)) fun M_36 =>
  gzl (x5) <|
  lett ((M_36.1, vp_updL M_36.2.1 1 ((x3 / x5)), M_36.2.2)) fun M_44 =>
  some M_44
set_option maxHeartbeats 4000000 in
set_option maxRecDepth 100000 in
theorem b_X8_tells_31 {p : Program} {l : Launch} {e : Env} {s : State} {m : MethodId} {args : Array Value} {below : List Frame} {meth : Method} {c : Code} {Q : State → Prop} {dC : Nat → ClassId} {dI : Nat → Nat → Nat} {cs : Nat → ClassId} {A : Nat → Prop} {a : Nat → Nat} {res : Ms} (C : CallFix p m c cX8_tells 11 s args wsX8_tells RX8) (G : GE dC dI cs s) (hA : ∀ q : Nat, s.heap.size ≤ q → A q) (hR : RTv p l e ({ frames := 0, cells := 0, slots := 0, locals := 0 }) s m args below meth c cX8_tells Q (dC, dI) A (fun u : Ms => (wM cs a u)) res) (x1 : Int64) (x3 : Int64) (x5 : Int64) (M : Ms)   (H : Heap) (locs : List Loc) (ls : Array Slot) (hl : lv_has ls 11 [(0, .ref (a 0)), (1, .long (x1)), (3, .long (x3)), (5, .long (x5))]) (hP : va_P (dC, dI) vwCl (wM cs a M) H) (hD : va_D A (wM cs a M)) (hS : va_S A s.heap H locs) (hf : f_X8_tells_31 x1 x3 x5 M = some res) : W p l e ({ frames := 0, cells := 0, slots := 0, locals := 0 }) s m args below meth c H locs 0 0 Q (F0 m 31 ls []) := by
  obtain ⟨hx, hb, hml, hown, hts⟩ := id C
  obtain ⟨hK, hN⟩ := id G
  unfold f_X8_tells_31 at hf
  refine lv_aload_n hx hb dX8_tells_31 rfl (lv_at hl 0 rfl) ?_
  refine lv_lload_n hx hb dX8_tells_32 rfl (lv_at hl 1 rfl) ?_
  refine lv_lload hx hb dX8_tells_33 (lv_at hl 3 rfl) ?_
  obtain ⟨hz1, hf⟩ := gzl_e hf
  refine lv_ldiv hx hb dX8_tells_35 hz1 ?_
  refine va_put (D := (dC, dI)) (ci := 8) (v := .long ((x1 / x5))) (ty := .long) (C := RX8) (T := TX8) (N := 20) hx hb hts in_X8_tells_X8 tyX8 tyX8_ok nmX8 hown hK hP hD hS 0 rfl rfl 8 (by decide) (hts (.fieldLink RX8 221 "BackLoansModel" "above" "J") (by decide +kernel)) (fun _ h9 => h9) rfl (by decide +kernel) rfl rfl (Nat.le_of_ble_eq_true rfl) dX8_tells_36 (fun H locs hP hD hS => ?_)
  obtain ⟨M_36, hP, hD, hf⟩ := st_nm (ws := fun M_36 : Ms => (wM cs a M_36)) ((M.1, vp_updL M.2.1 0 ((x1 / x5)), M.2.2)) hP hD hf
  refine lv_aload_n hx hb dX8_tells_39 rfl (lv_at hl 0 rfl) ?_
  refine lv_lload_n hx hb dX8_tells_40 rfl (lv_at hl 2 rfl) ?_
  refine lv_lload hx hb dX8_tells_41 (lv_at hl 3 rfl) ?_
  obtain ⟨hz2, hf⟩ := gzl_e hf
  refine lv_ldiv hx hb dX8_tells_43 hz2 ?_
  refine va_put (D := (dC, dI)) (ci := 8) (v := .long ((x3 / x5))) (ty := .long) (C := RX8) (T := TX8) (N := 20) hx hb hts in_X8_tells_X8 tyX8 tyX8_ok nmX8 hown hK hP hD hS 0 rfl rfl 9 (by decide) (hts (.fieldLink RX8 32 "BackLoansModel" "below" "J") (by decide +kernel)) (fun _ h9 => h9) rfl (by decide +kernel) rfl rfl (Nat.le_of_ble_eq_true rfl) dX8_tells_44 (fun H locs hP hD hS => ?_)
  obtain ⟨M_44, hP, hD, hf⟩ := st_nm (ws := fun M_44 : Ms => (wM cs a M_44)) ((M_36.1, vp_updL M_36.2.1 1 ((x3 / x5)), M_36.2.2)) hP hD hf
  exact hR _ _ _ _ _ dX8_tells_47 hf hP hD hS
def f_X8_tells (x1 : Int64) (x3 : Int64) (M : Ms) : Option Ms :=
  l_X8_tells_6 x1 x3 M (fun x5 => f_X8_tells_31 x1 x3 x5 M) FU x1 x3
set_option maxHeartbeats 4000000 in
set_option maxRecDepth 100000 in
theorem c_X8_tells (l : Launch) (dC : Nat → ClassId) (dI : Nat → Nat → Nat) (cs : Nat → ClassId) (a : Nat → Nat) (sz : Nat) (M : Ms) (x1 : Int64) (x3 : Int64) (res : Ms) (hf : f_X8_tells x1 x3 M = some res) : Met l yX8_tells wsX8_tells ({ frames := 0, cells := 0, slots := 0, locals := 0 }) (va_Pc [.ref (a 0), .long (x1), .long (x3)] (fun U => U.heap.size = sz ∧ va_P (dC, dI) vwCl (wM cs a M) U.heap ∧ GE dC dI cs U ∧ va_D (fun _ => True) (wM cs a M))) (va_Qv (fun u : Ms => u = res) (fun u t => va_P (dC, dI) vwCl ((fun u : Ms => (wM cs a u)) u) t.heap ∧ va_D (va_A (wM cs a M) sz) ((fun u : Ms => (wM cs a u)) u)) (va_A (wM cs a M) sz)) 0 0 (va_A (wM cs a M) sz) := by
  refine Met.ofW (cc := cX8_tells) (maxL := 11) (ret := none) (by decide) rfl ?_
  intro p e s m args below meth c s₁ Bd hml hv
  obtain ⟨rfl, hsz, hP, G, hD0⟩ := hv
  have hts := atoms_spec (ws := wsX8_tells) Bd.pre
  have hown : s.vm.findClass RX8 = some m.cls := findClass_of_methodNamed Bd.named
  have hlocks := Bd.notSynchronized
  have hx := Bd.exec
  have hb := Bd.bytes
  have hr := Bd.returns
  have C : CallFix p m c cX8_tells 11 s _ wsX8_tells RX8 := ⟨hx, hb, hml, hown, hts⟩
  obtain ⟨hK, hN⟩ := id G
  subst hsz
  have hD := hD0.self (sz := s.heap.size)
  generalize hAe : va_A (wM cs a M) s.heap.size = A at hD ⊢
  have hA : ∀ q : Nat, s.heap.size ≤ q → A q := fun q h => by rw [← hAe]; exact Or.inr h
  have hS : va_S A s.heap s.heap [] := va_S.rf
  have hR : RTv p l e ({ frames := 0, cells := 0, slots := 0, locals := 0 }) s m ([.ref (a 0), .long (x1), .long (x3)] : List Value).toArray below meth c cX8_tells (MQ below (va_Qv (fun u : Ms => u = res) (fun u t => va_P (dC, dI) vwCl ((fun u : Ms => (wM cs a u)) u) t.heap ∧ va_D A ((fun u : Ms => (wM cs a u)) u)) A) ([.ref (a 0), .long (x1), .long (x3)] : List Value).toArray s 0 0 A) (dC, dI) A (fun u : Ms => (wM cs a u)) res := fun H locs pc ls u dd h hP hD hS => W.vret hx hb hr (fun t ht hW => ⟨⟨u, rfl, by cases h; rfl, by rw [ht]; exact hP, hD⟩, hS.F ht⟩) hS.2.2 dd
  have hl := lv_entry ([.ref (a 0), .long (x1), .long (x3)]) (n := 11) (Nat.le_of_ble_eq_true rfl)
  rw [lg_entry_eq]
  generalize (lg_sl ([.ref (a 0), .long (x1), .long (x3)]) ++ List.replicate (11 - (lg_sl ([.ref (a 0), .long (x1), .long (x3)])).length) Slot.unset).toArray = ls at hl ⊢
  have hl : lv_has ls 11 [(0, .ref (a 0)), (1, .long (x1)), (3, .long (x3))] := hl
  unfold f_X8_tells at hf
  refine lv_lload_n hx hb dX8_tells_0 rfl (lv_at hl 1 rfl) ?_
  refine lv_lstore (lv' := [(5, .long (x1)), (0, .ref (a 0)), (1, .long (x1)), (3, .long (x3))]) hx hb dX8_tells_1 hl (by decide) rfl (fun ls hl => ?_)
  refine lv_lload_n hx hb dX8_tells_3 rfl (lv_at hl 3 rfl) ?_
  refine lv_lstore (lv' := [(7, .long (x3)), (5, .long (x1)), (0, .ref (a 0)), (1, .long (x1)), (3, .long (x3))]) hx hb dX8_tells_4 hl (by decide) rfl (fun ls hl => ?_)
  exact w_X8_tells_6 C G hA hR x1 x3 M (fun x5 H locs ls hl hP hD hS hf => b_X8_tells_31 C G hA hR x1 x3 x5 M _ _ _ hl hP hD hS hf) FU x1 x3 _ _ _ (lv_sub hl [2, 3, 4, 1, 0] rfl) hP hD hS hf

theorem in_X8_luck_X8 : ∀ w ∈ wsX80, w ∈ wsX8_luck := by decide +kernel
def f_X8_luck_18 (M : Ms)  : Option (Int32 × Ms) :=
  bn (f_X8_bad M) fun r19 =>
  some (r19.1, r19.2)
set_option maxHeartbeats 4000000 in
set_option maxRecDepth 100000 in
theorem b_X8_luck_18 {p : Program} {l : Launch} {e : Env} {s : State} {m : MethodId} {args : Array Value} {below : List Frame} {meth : Method} {c : Code} {Q : State → Prop} {dC : Nat → ClassId} {dI : Nat → Nat → Nat} {cs : Nat → ClassId} {A : Nat → Prop} {a : Nat → Nat} {res : Int32 × Ms} (C : CallFix p m c cX8_luck 11 s args wsX8_luck RX8) (G : GE dC dI cs s) (hA : ∀ q : Nat, s.heap.size ≤ q → A q) (hR : RTi p l e ({ frames := 2, cells := 0, slots := 0, locals := 51 }) s m args below meth c cX8_luck Q (dC, dI) A (fun u : Ms => (wM cs a u)) res) (M : Ms)   (H : Heap) (locs : List Loc) (ls : Array Slot) (hl : lv_has ls 11 [(0, .ref (a 0))]) (hP : va_P (dC, dI) vwCl (wM cs a M) H) (hD : va_D A (wM cs a M)) (hS : va_S A s.heap H locs) (hf : f_X8_luck_18 M = some res) : W p l e ({ frames := 2, cells := 0, slots := 0, locals := 51 }) s m args below meth c H locs 0 0 Q (F0 m 18 ls []) := by
  obtain ⟨hx, hb, hml, hown, hts⟩ := id C
  obtain ⟨hK, hN⟩ := id G
  unfold f_X8_luck_18 at hf
  refine lv_aload_n hx hb dX8_luck_18 rfl (lv_at hl 0 rfl) ?_
  obtain ⟨r19, hr19, hf⟩ := bn_e hf
  have hPc := hP.sub (ws' := (wM cs a M)) [0, 1, 2, 3, 4, 5, 6, 7, 8, 9, 10, 11] rfl
  have hDc := hD.sub (ws' := (wM cs a M)) [0, 1, 2, 3, 4, 5, 6, 7, 8, 9, 10, 11] (by decide) rfl
  have hFc := va_free (wc := (wM cs a M)) hD hS hA [0, 1, 2, 3, 4, 5, 6, 7, 8, 9, 10, 11] rfl
  refine va_calli (va_runV (As := []) (rest := []) C (c_X8_bad l dC dI cs a H.size M r19 hr19) (cwV 0 hts gX8_luck_X8_bad rfl rfl rfl (by decide +kernel) ⟨Nat.le_of_ble_eq_true rfl, Nat.le_of_ble_eq_true rfl⟩) ⟨(fun a U g mk q => ⟨q.1, q.2.1, q.2.2.1, GE.calling q.2.2.2.1, q.2.2.2.2⟩), va_recv hK hPc (ci := 8) (q0 := 0) rfl rfl, (fun U hU hW => ⟨rfl, by rw [hU], by rw [hU]; exact hPc, GE.warm hW G, hDc.weaken (fun _ _ _ _ => trivial)⟩)⟩ rfl rfl hl.1 rfl (lv_room (Nat.le_of_ble_eq_true rfl)) dX8_luck_19 ⟨Nat.le_of_ble_eq_true rfl, Nat.le_of_ble_eq_true rfl⟩) hS (fun q _ h => hFc q h) hFc (fun q u t H1 locs ht hvm hw hB hz1 hk1 hS => ?_)
  obtain ⟨rfl, rfl⟩ := hw
  obtain ⟨hP1, hD1⟩ := hB
  rw [ht] at hP1
  obtain ⟨hP, hD⟩ := va_join (wr := []) (w1 := (wM cs a r19.2)) hP hD [0, 1, 2, 3, 4, 5, 6, 7, 8, 9, 10, 11] [] rfl rfl (by decide) (by decide) hk1 hFc hP1 hD1
  generalize H1 = H at hP hS ⊢
  have hP := hP.sub (ws' := (wM cs a r19.2)) [0, 1, 2, 3, 4, 5, 6, 7, 8, 9, 10, 11] rfl
  have hD := hD.sub (ws' := (wM cs a r19.2)) [0, 1, 2, 3, 4, 5, 6, 7, 8, 9, 10, 11] (by decide) rfl
  exact hR _ _ _ _ _ _ dX8_luck_22 hf hP hD hS
def f_X8_luck_84 (x2 : Int32) (x3 : Int32) (x4 : Int32) (x5 : Int32) (x6 : Int64) (x8 : Int32) (M : Ms) (K84 : Int64 → Int32 → Option (Int32 × Ms)) (K105 : Int64 → Option (Int32 × Ms)) : Option (Int32 × Ms) :=
  if x5 ≤ x8 then (
    K105 x6
  ) else (
    lett (x6 * (10 : Int64)) fun x6_97 =>
    lett (x8 + 1) fun x8_99 =>
    K84 x6_97 x8_99
  )
set_option maxHeartbeats 4000000 in
set_option maxRecDepth 100000 in
theorem b_X8_luck_84 {p : Program} {l : Launch} {e : Env} {s : State} {m : MethodId} {args : Array Value} {below : List Frame} {meth : Method} {c : Code} {Q : State → Prop} {dC : Nat → ClassId} {dI : Nat → Nat → Nat} {cs : Nat → ClassId} {A : Nat → Prop} {a : Nat → Nat} {res : Int32 × Ms} (C : CallFix p m c cX8_luck 11 s args wsX8_luck RX8) (G : GE dC dI cs s) (hA : ∀ q : Nat, s.heap.size ≤ q → A q) (hR : RTi p l e ({ frames := 2, cells := 0, slots := 0, locals := 51 }) s m args below meth c cX8_luck Q (dC, dI) A (fun u : Ms => (wM cs a u)) res) (x2 : Int32) (x3 : Int32) (x4 : Int32) (x5 : Int32) (x6 : Int64) (x8 : Int32) (M : Ms) {K84 : Int64 → Int32 → Option (Int32 × Ms)} {K105 : Int64 → Option (Int32 × Ms)} (hK84 : ∀ (x6 : Int64) (x8 : Int32) (H : Heap) (locs : List Loc) (ls : Array Slot), lv_has ls 11 [(0, .ref (a 0)), (2, .int (x2)), (3, .int (x3)), (4, .int (x4)), (5, .int (x5)), (6, .long (x6)), (8, .int (x8))] → va_P (dC, dI) vwCl (wM cs a M) H → va_D A (wM cs a M) → va_S A s.heap H locs → K84 x6 x8 = some res → W p l e ({ frames := 2, cells := 0, slots := 0, locals := 51 }) s m args below meth c H locs 0 0 Q (F0 m 84 ls [])) (hK105 : ∀ (x6 : Int64) (H : Heap) (locs : List Loc) (ls : Array Slot), lv_has ls 11 [(0, .ref (a 0)), (2, .int (x2)), (3, .int (x3)), (4, .int (x4)), (5, .int (x5)), (6, .long (x6))] → va_P (dC, dI) vwCl (wM cs a M) H → va_D A (wM cs a M) → va_S A s.heap H locs → K105 x6 = some res → W p l e ({ frames := 2, cells := 0, slots := 0, locals := 51 }) s m args below meth c H locs 0 0 Q (F0 m 105 ls [])) (H : Heap) (locs : List Loc) (ls : Array Slot) (hl : lv_has ls 11 [(0, .ref (a 0)), (2, .int (x2)), (3, .int (x3)), (4, .int (x4)), (5, .int (x5)), (6, .long (x6)), (8, .int (x8))]) (hP : va_P (dC, dI) vwCl (wM cs a M) H) (hD : va_D A (wM cs a M)) (hS : va_S A s.heap H locs) (hf : f_X8_luck_84 x2 x3 x4 x5 x6 x8 M K84 K105 = some res) : W p l e ({ frames := 2, cells := 0, slots := 0, locals := 51 }) s m args below meth c H locs 0 0 Q (F0 m 84 ls []) := by
  obtain ⟨hx, hb, hml, hown, hts⟩ := id C
  obtain ⟨hK, hN⟩ := id G
  unfold f_X8_luck_84 at hf
  refine lv_iload hx hb dX8_luck_84 (lv_at hl 6 rfl) ?_
  refine lv_iload hx hb dX8_luck_86 (lv_at hl 4 rfl) ?_
  refine lv_icmp_ge (tgt := 105) hx hb dX8_luck_88 (by decide) (fun c1 => ?_) (fun c1 => ?_)
  · replace hf := it_t c1 hf
    exact hK105 x6 _ _ _ (lv_sub hl [0, 1, 2, 3, 4, 5] rfl) hP hD hS hf
  · replace hf := it_f c1 hf
    refine lv_lload hx hb dX8_luck_91 (lv_at hl 5 rfl) ?_
    refine lv_ldc2 (v := 10) hx hb hown (hts (.constantLong RX8 224 (10)) (by decide +kernel)) dX8_luck_93 ?_
    refine lv_lmul hx hb dX8_luck_96 ?_
    refine lv_topl (fun x6_97 ex6_97 => ?_)
    replace hf := lett_s ex6_97 hf
    refine lv_lstore (lv' := [(6, .long (x6_97)), (0, .ref (a 0)), (2, .int (x2)), (3, .int (x3)), (4, .int (x4)), (5, .int (x5)), (8, .int (x8))]) hx hb dX8_luck_97 hl (by decide) rfl (fun ls hl => ?_)
    obtain ⟨x8_99, ex8_99⟩ : ∃ y : Int32, y = (x8 + 1) := ⟨_, rfl⟩
    replace hf := lett_s ex8_99 hf
    refine lv_iinc (v := x8_99) (lv' := [(8, .int (x8_99)), (6, .long (x6_97)), (0, .ref (a 0)), (2, .int (x2)), (3, .int (x3)), (4, .int (x4)), (5, .int (x5))]) hx hb dX8_luck_99 hl (k := 6) rfl (by rw [ex8_99]; rfl) (by decide) rfl (fun ls hl => ?_)
    refine lv_goto (tgt := 84) hx hb dX8_luck_102 (by decide) ?_
    exact hK84 x6_97 x8_99 _ _ _ (lv_sub hl [2, 3, 4, 5, 6, 1, 0] rfl) hP hD hS hf
def l_X8_luck_84 (x2 : Int32) (x3 : Int32) (x4 : Int32) (x5 : Int32) (M : Ms) (K105 : Int64 → Option (Int32 × Ms)) (n : Nat) (x6 : Int64) (x8 : Int32) : Option (Int32 × Ms) := itr (fun (k : Int64 × Int32 → Option (Int32 × Ms)) (z : Int64 × Int32) => f_X8_luck_84 x2 x3 x4 x5 z.1 z.2 M (fun x6 x8 => k (x6, x8)) K105) n (x6, x8)
set_option maxHeartbeats 4000000 in
set_option maxRecDepth 100000 in
theorem w_X8_luck_84 {p : Program} {l : Launch} {e : Env} {s : State} {m : MethodId} {args : Array Value} {below : List Frame} {meth : Method} {c : Code} {Q : State → Prop} {dC : Nat → ClassId} {dI : Nat → Nat → Nat} {cs : Nat → ClassId} {A : Nat → Prop} {a : Nat → Nat} {res : Int32 × Ms} (C : CallFix p m c cX8_luck 11 s args wsX8_luck RX8) (G : GE dC dI cs s) (hA : ∀ q : Nat, s.heap.size ≤ q → A q) (hR : RTi p l e ({ frames := 2, cells := 0, slots := 0, locals := 51 }) s m args below meth c cX8_luck Q (dC, dI) A (fun u : Ms => (wM cs a u)) res) (x2 : Int32) (x3 : Int32) (x4 : Int32) (x5 : Int32) (M : Ms) {K105 : Int64 → Option (Int32 × Ms)} (hK105 : ∀ (x6 : Int64) (H : Heap) (locs : List Loc) (ls : Array Slot), lv_has ls 11 [(0, .ref (a 0)), (2, .int (x2)), (3, .int (x3)), (4, .int (x4)), (5, .int (x5)), (6, .long (x6))] → va_P (dC, dI) vwCl (wM cs a M) H → va_D A (wM cs a M) → va_S A s.heap H locs → K105 x6 = some res → W p l e ({ frames := 2, cells := 0, slots := 0, locals := 51 }) s m args below meth c H locs 0 0 Q (F0 m 105 ls [])) : ∀ (n : Nat) (x6 : Int64) (x8 : Int32) (H : Heap) (locs : List Loc) (ls : Array Slot), lv_has ls 11 [(0, .ref (a 0)), (2, .int (x2)), (3, .int (x3)), (4, .int (x4)), (5, .int (x5)), (6, .long (x6)), (8, .int (x8))] → va_P (dC, dI) vwCl (wM cs a M) H → va_D A (wM cs a M) → va_S A s.heap H locs → l_X8_luck_84 x2 x3 x4 x5 M K105 n x6 x8 = some res → W p l e ({ frames := 2, cells := 0, slots := 0, locals := 51 }) s m args below meth c H locs 0 0 Q (F0 m 84 ls []) := by
  intro n
  induction n with
  | zero => intro x6 x8 H locs ls hl hP hD hS hf; exact absurd hf (by simp [l_X8_luck_84, itr])
  | succ n ih =>
    intro x6 x8 H locs ls hl hP hD hS hf
    replace hf : f_X8_luck_84 x2 x3 x4 x5 x6 x8 M (fun x6 x8 => l_X8_luck_84 x2 x3 x4 x5 M K105 n x6 x8) K105 = some res := by rw [← hf]; unfold l_X8_luck_84; rw [itr_s]
    exact b_X8_luck_84 C G hA hR x2 x3 x4 x5 x6 x8 M (K84 := fun x6 x8 => l_X8_luck_84 x2 x3 x4 x5 M K105 n x6 x8) (fun x6 x8 H locs ls hl hP hD hS hf => ih x6 x8 H locs ls hl hP hD hS hf) hK105 H locs ls hl hP hD hS hf
def f_X8_luck_111 (x2 : Int32) (x3 : Int32) (x4 : Int32) (x5 : Int32) (x6 : Int64) (x8 : Int64) (x10 : Int32) (M : Ms) (K111 : Int64 → Int32 → Option (Int32 × Ms)) (K165 : Int64 → Option (Int32 × Ms)) : Option (Int32 × Ms) :=
  if ((1 : Int32) <<< (x5 &&& 31)) ≤ x10 then (
    K165 x8
  ) else (
    gi ((x4 + (2 : Int32))) 362 <|
    gi ((x4 + (1 : Int32))) 362 <|
    gi ((x3 + (1 : Int32))) 362 <|
    bn (f_X8_lucky x10 ((M.2.2 0) ((x4 + (2 : Int32))).toNatClampNeg) ((M.2.2 0) ((x4 + (1 : Int32))).toNatClampNeg) ((M.2.2 0) ((x3 + (1 : Int32))).toNatClampNeg) x5 x2) fun r153 =>
    lett (x8 + r153) fun x8_157 =>
    lett (x10 + 1) fun x10_159 =>
    K111 x8_157 x10_159
  )
set_option maxHeartbeats 4000000 in
set_option maxRecDepth 100000 in
theorem b_X8_luck_111 {p : Program} {l : Launch} {e : Env} {s : State} {m : MethodId} {args : Array Value} {below : List Frame} {meth : Method} {c : Code} {Q : State → Prop} {dC : Nat → ClassId} {dI : Nat → Nat → Nat} {cs : Nat → ClassId} {A : Nat → Prop} {a : Nat → Nat} {res : Int32 × Ms} (C : CallFix p m c cX8_luck 11 s args wsX8_luck RX8) (G : GE dC dI cs s) (hA : ∀ q : Nat, s.heap.size ≤ q → A q) (hR : RTi p l e ({ frames := 2, cells := 0, slots := 0, locals := 51 }) s m args below meth c cX8_luck Q (dC, dI) A (fun u : Ms => (wM cs a u)) res) (x2 : Int32) (x3 : Int32) (x4 : Int32) (x5 : Int32) (x6 : Int64) (x8 : Int64) (x10 : Int32) (M : Ms) {K111 : Int64 → Int32 → Option (Int32 × Ms)} {K165 : Int64 → Option (Int32 × Ms)} (hK111 : ∀ (x8 : Int64) (x10 : Int32) (H : Heap) (locs : List Loc) (ls : Array Slot), lv_has ls 11 [(0, .ref (a 0)), (2, .int (x2)), (3, .int (x3)), (4, .int (x4)), (5, .int (x5)), (6, .long (x6)), (8, .long (x8)), (10, .int (x10))] → va_P (dC, dI) vwCl (wM cs a M) H → va_D A (wM cs a M) → va_S A s.heap H locs → K111 x8 x10 = some res → W p l e ({ frames := 2, cells := 0, slots := 0, locals := 51 }) s m args below meth c H locs 0 0 Q (F0 m 111 ls [])) (hK165 : ∀ (x8 : Int64) (H : Heap) (locs : List Loc) (ls : Array Slot), lv_has ls 11 [(0, .ref (a 0)), (6, .long (x6)), (8, .long (x8))] → va_P (dC, dI) vwCl (wM cs a M) H → va_D A (wM cs a M) → va_S A s.heap H locs → K165 x8 = some res → W p l e ({ frames := 2, cells := 0, slots := 0, locals := 51 }) s m args below meth c H locs 0 0 Q (F0 m 165 ls [])) (H : Heap) (locs : List Loc) (ls : Array Slot) (hl : lv_has ls 11 [(0, .ref (a 0)), (2, .int (x2)), (3, .int (x3)), (4, .int (x4)), (5, .int (x5)), (6, .long (x6)), (8, .long (x8)), (10, .int (x10))]) (hP : va_P (dC, dI) vwCl (wM cs a M) H) (hD : va_D A (wM cs a M)) (hS : va_S A s.heap H locs) (hf : f_X8_luck_111 x2 x3 x4 x5 x6 x8 x10 M K111 K165 = some res) : W p l e ({ frames := 2, cells := 0, slots := 0, locals := 51 }) s m args below meth c H locs 0 0 Q (F0 m 111 ls []) := by
  obtain ⟨hx, hb, hml, hown, hts⟩ := id C
  obtain ⟨hK, hN⟩ := id G
  unfold f_X8_luck_111 at hf
  refine lv_iload hx hb dX8_luck_111 (lv_at hl 7 rfl) ?_
  refine lv_iconst (v := 1) hx hb dX8_luck_113 (by decide) ?_
  refine lv_iload hx hb dX8_luck_114 (lv_at hl 4 rfl) ?_
  refine lv_ishl hx hb dX8_luck_116 ?_
  refine lv_icmp_ge (tgt := 165) hx hb dX8_luck_117 (by decide) (fun c1 => ?_) (fun c1 => ?_)
  · replace hf := it_t c1 hf
    exact hK165 x8 _ _ _ (lv_sub hl [0, 5, 6] rfl) hP hD hS hf
  · replace hf := it_f c1 hf
    refine lv_lload hx hb dX8_luck_120 (lv_at hl 6 rfl) ?_
    refine lv_iload hx hb dX8_luck_122 (lv_at hl 7 rfl) ?_
    refine lv_aload_n hx hb dX8_luck_124 rfl (lv_at hl 0 rfl) ?_
    refine va_get (D := (dC, dI)) (ci := 8) (v := .ref (a 1)) (C := RX8) (T := TX8) (N := 20) hx hb hts in_X8_luck_X8 hown hK hP 0 rfl rfl 0 (by decide) (hts (.fieldLink RX8 7 "BackLoansModel" "now" "[I") (by decide +kernel)) (fun _ h9 => h9) rfl dX8_luck_125 ?_
    refine lv_iload hx hb dX8_luck_128 (lv_at hl 3 rfl) ?_
    refine lv_iconst (v := 2) hx hb dX8_luck_130 (by decide) ?_
    refine lv_iadd hx hb dX8_luck_131 ?_
    obtain ⟨hi2, hf⟩ := gi_e hf
    refine va_iald hx hb hK hP 1 0 rfl rfl hi2 dX8_luck_132 ?_
    refine lv_aload_n hx hb dX8_luck_133 rfl (lv_at hl 0 rfl) ?_
    refine va_get (D := (dC, dI)) (ci := 8) (v := .ref (a 1)) (C := RX8) (T := TX8) (N := 20) hx hb hts in_X8_luck_X8 hown hK hP 0 rfl rfl 0 (by decide) (hts (.fieldLink RX8 7 "BackLoansModel" "now" "[I") (by decide +kernel)) (fun _ h9 => h9) rfl dX8_luck_134 ?_
    refine lv_iload hx hb dX8_luck_137 (lv_at hl 3 rfl) ?_
    refine lv_iconst (v := 1) hx hb dX8_luck_139 (by decide) ?_
    refine lv_iadd hx hb dX8_luck_140 ?_
    obtain ⟨hi3, hf⟩ := gi_e hf
    refine va_iald hx hb hK hP 1 0 rfl rfl hi3 dX8_luck_141 ?_
    refine lv_aload_n hx hb dX8_luck_142 rfl (lv_at hl 0 rfl) ?_
    refine va_get (D := (dC, dI)) (ci := 8) (v := .ref (a 1)) (C := RX8) (T := TX8) (N := 20) hx hb hts in_X8_luck_X8 hown hK hP 0 rfl rfl 0 (by decide) (hts (.fieldLink RX8 7 "BackLoansModel" "now" "[I") (by decide +kernel)) (fun _ h9 => h9) rfl dX8_luck_143 ?_
    refine lv_iload_n hx hb dX8_luck_146 rfl (lv_at hl 2 rfl) ?_
    refine lv_iconst (v := 1) hx hb dX8_luck_147 (by decide) ?_
    refine lv_iadd hx hb dX8_luck_148 ?_
    obtain ⟨hi4, hf⟩ := gi_e hf
    refine va_iald hx hb hK hP 1 0 rfl rfl hi4 dX8_luck_149 ?_
    refine lv_iload hx hb dX8_luck_150 (lv_at hl 4 rfl) ?_
    refine lv_iload_n hx hb dX8_luck_152 rfl (lv_at hl 1 rfl) ?_
    obtain ⟨r153, hr153, hf⟩ := bn_e hf
    have hPc := hP.sub (ws' := ([] : va_W)) [] rfl
    refine vp_callSl (W.runS (As := [.int (x10), .int (((M.2.2 0) ((x4 + (2 : Int32))).toNatClampNeg)), .int (((M.2.2 0) ((x4 + (1 : Int32))).toNatClampNeg)), .int (((M.2.2 0) ((x3 + (1 : Int32))).toNatClampNeg)), .int (x5), .int (x2)]) (rest := [.long (x8)]) C (c_X8_lucky l dC dI cs x10 ((M.2.2 0) ((x4 + (2 : Int32))).toNatClampNeg) ((M.2.2 0) ((x4 + (1 : Int32))).toNatClampNeg) ((M.2.2 0) ((x3 + (1 : Int32))).toNatClampNeg) x5 x2 r153 hr153) (va_cwS 6 hts gX8_luck_X8_lucky rfl rfl rfl (by decide +kernel) ⟨Nat.le_of_ble_eq_true rfl, Nat.le_of_ble_eq_true rfl⟩) ⟨(fun a U g mk q => ⟨q.1, q.2.1, GE.calling q.2.2⟩), (fun U hU hW => ⟨rfl, by rw [hU]; exact hPc, GE.warm hW G⟩)⟩ rfl rfl hl.1 rfl (lv_room (Nat.le_of_ble_eq_true rfl)) dX8_luck_153 ⟨Nat.le_of_ble_eq_true rfl, Nat.le_of_ble_eq_true rfl⟩) (fun qr153 hqr153 => ?_)
    obtain rfl := hqr153.symm
    refine lv_ladd hx hb dX8_luck_156 ?_
    refine lv_topl (fun x8_157 ex8_157 => ?_)
    replace hf := lett_s ex8_157 hf
    refine lv_lstore (lv' := [(8, .long (x8_157)), (0, .ref (a 0)), (2, .int (x2)), (3, .int (x3)), (4, .int (x4)), (5, .int (x5)), (6, .long (x6)), (10, .int (x10))]) hx hb dX8_luck_157 hl (by decide) rfl (fun ls hl => ?_)
    obtain ⟨x10_159, ex10_159⟩ : ∃ y : Int32, y = (x10 + 1) := ⟨_, rfl⟩
    replace hf := lett_s ex10_159 hf
    refine lv_iinc (v := x10_159) (lv' := [(10, .int (x10_159)), (8, .long (x8_157)), (0, .ref (a 0)), (2, .int (x2)), (3, .int (x3)), (4, .int (x4)), (5, .int (x5)), (6, .long (x6))]) hx hb dX8_luck_159 hl (k := 7) rfl (by rw [ex10_159]; rfl) (by decide) rfl (fun ls hl => ?_)
    refine lv_goto (tgt := 111) hx hb dX8_luck_162 (by decide) ?_
    exact hK111 x8_157 x10_159 _ _ _ (lv_sub hl [2, 3, 4, 5, 6, 7, 1, 0] rfl) hP hD hS hf
def l_X8_luck_111 (x2 : Int32) (x3 : Int32) (x4 : Int32) (x5 : Int32) (x6 : Int64) (M : Ms) (K165 : Int64 → Option (Int32 × Ms)) (n : Nat) (x8 : Int64) (x10 : Int32) : Option (Int32 × Ms) := itr (fun (k : Int64 × Int32 → Option (Int32 × Ms)) (z : Int64 × Int32) => f_X8_luck_111 x2 x3 x4 x5 x6 z.1 z.2 M (fun x8 x10 => k (x8, x10)) K165) n (x8, x10)
set_option maxHeartbeats 4000000 in
set_option maxRecDepth 100000 in
theorem w_X8_luck_111 {p : Program} {l : Launch} {e : Env} {s : State} {m : MethodId} {args : Array Value} {below : List Frame} {meth : Method} {c : Code} {Q : State → Prop} {dC : Nat → ClassId} {dI : Nat → Nat → Nat} {cs : Nat → ClassId} {A : Nat → Prop} {a : Nat → Nat} {res : Int32 × Ms} (C : CallFix p m c cX8_luck 11 s args wsX8_luck RX8) (G : GE dC dI cs s) (hA : ∀ q : Nat, s.heap.size ≤ q → A q) (hR : RTi p l e ({ frames := 2, cells := 0, slots := 0, locals := 51 }) s m args below meth c cX8_luck Q (dC, dI) A (fun u : Ms => (wM cs a u)) res) (x2 : Int32) (x3 : Int32) (x4 : Int32) (x5 : Int32) (x6 : Int64) (M : Ms) {K165 : Int64 → Option (Int32 × Ms)} (hK165 : ∀ (x8 : Int64) (H : Heap) (locs : List Loc) (ls : Array Slot), lv_has ls 11 [(0, .ref (a 0)), (6, .long (x6)), (8, .long (x8))] → va_P (dC, dI) vwCl (wM cs a M) H → va_D A (wM cs a M) → va_S A s.heap H locs → K165 x8 = some res → W p l e ({ frames := 2, cells := 0, slots := 0, locals := 51 }) s m args below meth c H locs 0 0 Q (F0 m 165 ls [])) : ∀ (n : Nat) (x8 : Int64) (x10 : Int32) (H : Heap) (locs : List Loc) (ls : Array Slot), lv_has ls 11 [(0, .ref (a 0)), (2, .int (x2)), (3, .int (x3)), (4, .int (x4)), (5, .int (x5)), (6, .long (x6)), (8, .long (x8)), (10, .int (x10))] → va_P (dC, dI) vwCl (wM cs a M) H → va_D A (wM cs a M) → va_S A s.heap H locs → l_X8_luck_111 x2 x3 x4 x5 x6 M K165 n x8 x10 = some res → W p l e ({ frames := 2, cells := 0, slots := 0, locals := 51 }) s m args below meth c H locs 0 0 Q (F0 m 111 ls []) := by
  intro n
  induction n with
  | zero => intro x8 x10 H locs ls hl hP hD hS hf; exact absurd hf (by simp [l_X8_luck_111, itr])
  | succ n ih =>
    intro x8 x10 H locs ls hl hP hD hS hf
    replace hf : f_X8_luck_111 x2 x3 x4 x5 x6 x8 x10 M (fun x8 x10 => l_X8_luck_111 x2 x3 x4 x5 x6 M K165 n x8 x10) K165 = some res := by rw [← hf]; unfold l_X8_luck_111; rw [itr_s]
    exact b_X8_luck_111 C G hA hR x2 x3 x4 x5 x6 x8 x10 M (K111 := fun x8 x10 => l_X8_luck_111 x2 x3 x4 x5 x6 M K165 n x8 x10) (fun x8 x10 H locs ls hl hP hD hS hf => ih x8 x10 H locs ls hl hP hD hS hf) hK165 H locs ls hl hP hD hS hf
def f_X8_luck_165 (x6 : Int64) (x8 : Int64) (M : Ms)  : Option (Int32 × Ms) :=
  bn (f_X8_tells x8 x6 M) fun r170 =>
  some ((1 : Int32), r170)
set_option maxHeartbeats 4000000 in
set_option maxRecDepth 100000 in
theorem b_X8_luck_165 {p : Program} {l : Launch} {e : Env} {s : State} {m : MethodId} {args : Array Value} {below : List Frame} {meth : Method} {c : Code} {Q : State → Prop} {dC : Nat → ClassId} {dI : Nat → Nat → Nat} {cs : Nat → ClassId} {A : Nat → Prop} {a : Nat → Nat} {res : Int32 × Ms} (C : CallFix p m c cX8_luck 11 s args wsX8_luck RX8) (G : GE dC dI cs s) (hA : ∀ q : Nat, s.heap.size ≤ q → A q) (hR : RTi p l e ({ frames := 2, cells := 0, slots := 0, locals := 51 }) s m args below meth c cX8_luck Q (dC, dI) A (fun u : Ms => (wM cs a u)) res) (x6 : Int64) (x8 : Int64) (M : Ms)   (H : Heap) (locs : List Loc) (ls : Array Slot) (hl : lv_has ls 11 [(0, .ref (a 0)), (6, .long (x6)), (8, .long (x8))]) (hP : va_P (dC, dI) vwCl (wM cs a M) H) (hD : va_D A (wM cs a M)) (hS : va_S A s.heap H locs) (hf : f_X8_luck_165 x6 x8 M = some res) : W p l e ({ frames := 2, cells := 0, slots := 0, locals := 51 }) s m args below meth c H locs 0 0 Q (F0 m 165 ls []) := by
  obtain ⟨hx, hb, hml, hown, hts⟩ := id C
  obtain ⟨hK, hN⟩ := id G
  unfold f_X8_luck_165 at hf
  refine lv_aload_n hx hb dX8_luck_165 rfl (lv_at hl 0 rfl) ?_
  refine lv_lload hx hb dX8_luck_166 (lv_at hl 2 rfl) ?_
  refine lv_lload hx hb dX8_luck_168 (lv_at hl 1 rfl) ?_
  obtain ⟨r170, hr170, hf⟩ := bn_e hf
  have hPc := hP.sub (ws' := (wM cs a M)) [0, 1, 2, 3, 4, 5, 6, 7, 8, 9, 10, 11] rfl
  have hDc := hD.sub (ws' := (wM cs a M)) [0, 1, 2, 3, 4, 5, 6, 7, 8, 9, 10, 11] (by decide) rfl
  have hFc := va_free (wc := (wM cs a M)) hD hS hA [0, 1, 2, 3, 4, 5, 6, 7, 8, 9, 10, 11] rfl
  refine va_callv (va_runV (As := [.long (x8), .long (x6)]) (rest := []) C (c_X8_tells l dC dI cs a H.size M x8 x6 r170 hr170) (cwV 2 hts gX8_luck_X8_tells rfl rfl rfl (by decide +kernel) ⟨Nat.le_of_ble_eq_true rfl, Nat.le_of_ble_eq_true rfl⟩) ⟨(fun a U g mk q => ⟨q.1, q.2.1, q.2.2.1, GE.calling q.2.2.2.1, q.2.2.2.2⟩), va_recv hK hPc (ci := 8) (q0 := 0) rfl rfl, (fun U hU hW => ⟨rfl, by rw [hU], by rw [hU]; exact hPc, GE.warm hW G, hDc.weaken (fun _ _ _ _ => trivial)⟩)⟩ rfl rfl hl.1 rfl (lv_room (Nat.le_of_ble_eq_true rfl)) dX8_luck_170 ⟨Nat.le_of_ble_eq_true rfl, Nat.le_of_ble_eq_true rfl⟩) hS (fun q _ h => hFc q h) hFc (fun u t H1 locs ht hvm hw hB hz1 hk1 hS => ?_)
  obtain rfl := hw.symm
  obtain ⟨hP1, hD1⟩ := hB
  rw [ht] at hP1
  obtain ⟨hP, hD⟩ := va_join (wr := []) (w1 := (wM cs a r170)) hP hD [0, 1, 2, 3, 4, 5, 6, 7, 8, 9, 10, 11] [] rfl rfl (by decide) (by decide) hk1 hFc hP1 hD1
  generalize H1 = H at hP hS ⊢
  have hP := hP.sub (ws' := (wM cs a r170)) [0, 1, 2, 3, 4, 5, 6, 7, 8, 9, 10, 11] rfl
  have hD := hD.sub (ws' := (wM cs a r170)) [0, 1, 2, 3, 4, 5, 6, 7, 8, 9, 10, 11] (by decide) rfl
  refine lv_iconst (v := 1) hx hb dX8_luck_173 (by decide) ?_
  exact hR _ _ _ _ _ _ dX8_luck_174 hf hP hD hS
def f_X8_luck_105 (x2 : Int32) (x3 : Int32) (x4 : Int32) (x5 : Int32) (x6 : Int64) (M : Ms)  : Option (Int32 × Ms) :=
  lett (0 : Int64) fun x8_106 =>
  lett (0 : Int32) fun x10_109 =>
  l_X8_luck_111 x2 x3 x4 x5 x6 M (fun x8 => f_X8_luck_165 x6 x8 M) FU x8_106 x10_109
set_option maxHeartbeats 4000000 in
set_option maxRecDepth 100000 in
theorem b_X8_luck_105 {p : Program} {l : Launch} {e : Env} {s : State} {m : MethodId} {args : Array Value} {below : List Frame} {meth : Method} {c : Code} {Q : State → Prop} {dC : Nat → ClassId} {dI : Nat → Nat → Nat} {cs : Nat → ClassId} {A : Nat → Prop} {a : Nat → Nat} {res : Int32 × Ms} (C : CallFix p m c cX8_luck 11 s args wsX8_luck RX8) (G : GE dC dI cs s) (hA : ∀ q : Nat, s.heap.size ≤ q → A q) (hR : RTi p l e ({ frames := 2, cells := 0, slots := 0, locals := 51 }) s m args below meth c cX8_luck Q (dC, dI) A (fun u : Ms => (wM cs a u)) res) (x2 : Int32) (x3 : Int32) (x4 : Int32) (x5 : Int32) (x6 : Int64) (M : Ms)   (H : Heap) (locs : List Loc) (ls : Array Slot) (hl : lv_has ls 11 [(0, .ref (a 0)), (2, .int (x2)), (3, .int (x3)), (4, .int (x4)), (5, .int (x5)), (6, .long (x6))]) (hP : va_P (dC, dI) vwCl (wM cs a M) H) (hD : va_D A (wM cs a M)) (hS : va_S A s.heap H locs) (hf : f_X8_luck_105 x2 x3 x4 x5 x6 M = some res) : W p l e ({ frames := 2, cells := 0, slots := 0, locals := 51 }) s m args below meth c H locs 0 0 Q (F0 m 105 ls []) := by
  obtain ⟨hx, hb, hml, hown, hts⟩ := id C
  obtain ⟨hK, hN⟩ := id G
  unfold f_X8_luck_105 at hf
  refine lv_lconst (v := 0) hx hb dX8_luck_105 (by decide) ?_
  refine lv_topl (fun x8_106 ex8_106 => ?_)
  replace hf := lett_s ex8_106 hf
  refine lv_lstore (lv' := [(8, .long (x8_106)), (0, .ref (a 0)), (2, .int (x2)), (3, .int (x3)), (4, .int (x4)), (5, .int (x5)), (6, .long (x6))]) hx hb dX8_luck_106 hl (by decide) rfl (fun ls hl => ?_)
  refine lv_iconst (v := 0) hx hb dX8_luck_108 (by decide) ?_
  refine lv_topi (fun x10_109 ex10_109 => ?_)
  replace hf := lett_s ex10_109 hf
  refine lv_istore (lv' := [(10, .int (x10_109)), (8, .long (x8_106)), (0, .ref (a 0)), (2, .int (x2)), (3, .int (x3)), (4, .int (x4)), (5, .int (x5)), (6, .long (x6))]) hx hb dX8_luck_109 hl (by decide) rfl (fun ls hl => ?_)
  exact w_X8_luck_111 C G hA hR x2 x3 x4 x5 x6 M (fun x8 H locs ls hl hP hD hS hf => b_X8_luck_165 C G hA hR x6 x8 M _ _ _ hl hP hD hS hf) FU x8_106 x10_109 _ _ _ (lv_sub hl [2, 3, 4, 5, 6, 7, 1, 0] rfl) hP hD hS hf
def f_X8_luck (x1 : Int32) (x2 : Int32) (M : Ms) : Option (Int32 × Ms) :=
  bn (f_X8_isLoan x1 M) fun r2 =>
  if r2 = 0 then (
    f_X8_luck_18 M
  ) else (
    bn (f_X8_in x2 (0 : Int32) (10 : Int32)) fun r12 =>
    if r12 = 0 then (
      f_X8_luck_18 M
    ) else (
      lett ((26 : Int32) + ((5 : Int32) * x1)) fun x3_29 =>
      gi ((x3_29 + (3 : Int32))) 362 <|
      if ((M.2.2 0) ((x3_29 + (3 : Int32))).toNatClampNeg) = 0 then (
        gi (x3_29) 362 <|
        lett ((8 : Int32) + ((3 : Int32) * ((M.2.2 0) (x3_29).toNatClampNeg))) fun x4_57 =>
        gi ((x3_29 + (2 : Int32))) 362 <|
        gi ((x3_29 + (4 : Int32))) 362 <|
        lett (((M.2.2 0) ((x3_29 + (2 : Int32))).toNatClampNeg) - ((M.2.2 0) ((x3_29 + (4 : Int32))).toNatClampNeg)) fun x5_76 =>
        lett (1 : Int64) fun x6_79 =>
        lett (0 : Int32) fun x8_82 =>
        l_X8_luck_84 x2 x3_29 x4_57 x5_76 M (fun x6 => f_X8_luck_105 x2 x3_29 x4_57 x5_76 x6 M) FU x6_79 x8_82
      ) else (
        bn (f_X8_no M) fun r42 =>
        some (r42.1, r42.2)
      )
    )
  )
set_option maxHeartbeats 4000000 in
set_option maxRecDepth 100000 in
theorem c_X8_luck (l : Launch) (dC : Nat → ClassId) (dI : Nat → Nat → Nat) (cs : Nat → ClassId) (a : Nat → Nat) (sz : Nat) (M : Ms) (x1 : Int32) (x2 : Int32) (res : Int32 × Ms) (hf : f_X8_luck x1 x2 M = some res) : Met l yX8_luck wsX8_luck ({ frames := 2, cells := 0, slots := 0, locals := 51 }) (va_Pc [.ref (a 0), .int (x1), .int (x2)] (fun U => U.heap.size = sz ∧ va_P (dC, dI) vwCl (wM cs a M) U.heap ∧ GE dC dI cs U ∧ va_D (fun _ => True) (wM cs a M))) (va_Qi (fun r (u : Ms) => r = res.1 ∧ u = res.2) (fun u t => va_P (dC, dI) vwCl ((fun u : Ms => (wM cs a u)) u) t.heap ∧ va_D (va_A (wM cs a M) sz) ((fun u : Ms => (wM cs a u)) u)) (va_A (wM cs a M) sz)) 0 0 (va_A (wM cs a M) sz) := by
  refine Met.ofW (cc := cX8_luck) (maxL := 11) (ret := (some .int)) (by decide) rfl ?_
  intro p e s m args below meth c s₁ Bd hml hv
  obtain ⟨rfl, hsz, hP, G, hD0⟩ := hv
  have hts := atoms_spec (ws := wsX8_luck) Bd.pre
  have hown : s.vm.findClass RX8 = some m.cls := findClass_of_methodNamed Bd.named
  have hlocks := Bd.notSynchronized
  have hx := Bd.exec
  have hb := Bd.bytes
  have hr := Bd.returns
  have C : CallFix p m c cX8_luck 11 s _ wsX8_luck RX8 := ⟨hx, hb, hml, hown, hts⟩
  obtain ⟨hK, hN⟩ := id G
  subst hsz
  have hD := hD0.self (sz := s.heap.size)
  generalize hAe : va_A (wM cs a M) s.heap.size = A at hD ⊢
  have hA : ∀ q : Nat, s.heap.size ≤ q → A q := fun q h => by rw [← hAe]; exact Or.inr h
  have hS : va_S A s.heap s.heap [] := va_S.rf
  have hR : RTi p l e ({ frames := 2, cells := 0, slots := 0, locals := 51 }) s m ([.ref (a 0), .int (x1), .int (x2)] : List Value).toArray below meth c cX8_luck (MQ below (va_Qi (fun r (u : Ms) => r = res.1 ∧ u = res.2) (fun u t => va_P (dC, dI) vwCl ((fun u : Ms => (wM cs a u)) u) t.heap ∧ va_D A ((fun u : Ms => (wM cs a u)) u)) A) ([.ref (a 0), .int (x1), .int (x2)] : List Value).toArray s 0 0 A) (dC, dI) A (fun u : Ms => (wM cs a u)) res := fun H locs pc ls r u dd h hP hD hS => W.iret hx hb hr (fun t ht hW => ⟨⟨r, u, rfl, by cases h; exact ⟨rfl, rfl⟩, by rw [ht]; exact hP, hD⟩, hS.F ht⟩) hS.2.2 dd
  have hl := lv_entry ([.ref (a 0), .int (x1), .int (x2)]) (n := 11) (Nat.le_of_ble_eq_true rfl)
  rw [lg_entry_eq]
  generalize (lg_sl ([.ref (a 0), .int (x1), .int (x2)]) ++ List.replicate (11 - (lg_sl ([.ref (a 0), .int (x1), .int (x2)])).length) Slot.unset).toArray = ls at hl ⊢
  have hl : lv_has ls 11 [(0, .ref (a 0)), (1, .int (x1)), (2, .int (x2))] := hl
  unfold f_X8_luck at hf
  refine lv_aload_n hx hb dX8_luck_0 rfl (lv_at hl 0 rfl) ?_
  refine lv_iload_n hx hb dX8_luck_1 rfl (lv_at hl 1 rfl) ?_
  obtain ⟨r2, hr2, hf⟩ := bn_e hf
  have hPc := hP.sub (ws' := (wM cs a M)) [0, 1, 2, 3, 4, 5, 6, 7, 8, 9, 10, 11] rfl
  refine vp_callSi (W.runV (As := [.int (x1)]) (rest := []) C (c_X8_isLoan l dC dI cs a M x1 r2 hr2) (cwV 1 hts gX8_luck_X8_isLoan rfl rfl rfl (by decide +kernel) ⟨Nat.le_of_ble_eq_true rfl, Nat.le_of_ble_eq_true rfl⟩) ⟨(fun a U g mk q => ⟨q.1, q.2.1, GE.calling q.2.2⟩), va_recv hK hPc (ci := 8) (q0 := 0) rfl rfl, (fun U hU hW => ⟨rfl, by rw [hU]; exact hPc, GE.warm hW G⟩)⟩ rfl rfl hl.1 rfl (lv_room (Nat.le_of_ble_eq_true rfl)) dX8_luck_2 ⟨Nat.le_of_ble_eq_true rfl, Nat.le_of_ble_eq_true rfl⟩) (fun qr2 hqr2 => ?_)
  obtain ⟨hqr2, hnr2⟩ := hqr2
  obtain rfl := hqr2.symm
  refine lv_if_eq (tgt := 18) hx hb dX8_luck_5 (by decide) (fun c1 => ?_) (fun c1 => ?_)
  · replace hf := it_t c1 hf
    exact b_X8_luck_18 C G hA hR M _ _ _ (lv_sub hl [0] rfl) hP hD hS hf
  · replace hf := it_f c1 hf
    refine lv_iload_n hx hb dX8_luck_8 rfl (lv_at hl 2 rfl) ?_
    refine lv_iconst (v := 0) hx hb dX8_luck_9 (by decide) ?_
    refine lv_bipush (v := 10) hx hb dX8_luck_10 (by decide) ?_
    obtain ⟨r12, hr12, hf⟩ := bn_e hf
    have hPc := hP.sub (ws' := ([] : va_W)) [] rfl
    refine vp_callSi (W.runS (As := [.int (x2), .int ((0 : Int32)), .int ((10 : Int32))]) (rest := []) C (c_X8_in l dC dI cs x2 (0 : Int32) (10 : Int32) r12 hr12) (va_cwS 3 hts gX8_luck_X8_in rfl rfl rfl (by decide +kernel) ⟨Nat.le_of_ble_eq_true rfl, Nat.le_of_ble_eq_true rfl⟩) ⟨(fun a U g mk q => ⟨q.1, q.2.1, GE.calling q.2.2⟩), (fun U hU hW => ⟨rfl, by rw [hU]; exact hPc, GE.warm hW G⟩)⟩ rfl rfl hl.1 rfl (lv_room (Nat.le_of_ble_eq_true rfl)) dX8_luck_12 ⟨Nat.le_of_ble_eq_true rfl, Nat.le_of_ble_eq_true rfl⟩) (fun qr12 hqr12 => ?_)
    obtain ⟨hqr12, hnr12⟩ := hqr12
    obtain rfl := hqr12.symm
    refine lv_if_ne (tgt := 23) hx hb dX8_luck_15 (by decide) (fun c2 => ?_) (fun c2 => ?_)
    · replace hf := it_f c2 hf
      refine lv_bipush (v := 26) hx hb dX8_luck_23 (by decide) ?_
      refine lv_iconst (v := 5) hx hb dX8_luck_25 (by decide) ?_
      refine lv_iload_n hx hb dX8_luck_26 rfl (lv_at hl 1 rfl) ?_
      refine lv_imul hx hb dX8_luck_27 ?_
      refine lv_iadd hx hb dX8_luck_28 ?_
      refine lv_topi (fun x3_29 ex3_29 => ?_)
      replace hf := lett_s ex3_29 hf
      refine lv_istore_n (lv' := [(3, .int (x3_29)), (0, .ref (a 0)), (1, .int (x1)), (2, .int (x2))]) hx hb dX8_luck_29 rfl hl (by decide) rfl (fun ls hl => ?_)
      refine lv_aload_n hx hb dX8_luck_30 rfl (lv_at hl 1 rfl) ?_
      refine va_get (D := (dC, dI)) (ci := 8) (v := .ref (a 1)) (C := RX8) (T := TX8) (N := 20) hx hb hts in_X8_luck_X8 hown hK hP 0 rfl rfl 0 (by decide) (hts (.fieldLink RX8 7 "BackLoansModel" "now" "[I") (by decide +kernel)) (fun _ h9 => h9) rfl dX8_luck_31 ?_
      refine lv_iload_n hx hb dX8_luck_34 rfl (lv_at hl 0 rfl) ?_
      refine lv_iconst (v := 3) hx hb dX8_luck_35 (by decide) ?_
      refine lv_iadd hx hb dX8_luck_36 ?_
      obtain ⟨hi3, hf⟩ := gi_e hf
      refine va_iald hx hb hK hP 1 0 rfl rfl hi3 dX8_luck_37 ?_
      refine lv_if_eq (tgt := 46) hx hb dX8_luck_38 (by decide) (fun c4 => ?_) (fun c4 => ?_)
      · replace hf := it_t c4 hf
        refine lv_bipush (v := 8) hx hb dX8_luck_46 (by decide) ?_
        refine lv_iconst (v := 3) hx hb dX8_luck_48 (by decide) ?_
        refine lv_aload_n hx hb dX8_luck_49 rfl (lv_at hl 1 rfl) ?_
        refine va_get (D := (dC, dI)) (ci := 8) (v := .ref (a 1)) (C := RX8) (T := TX8) (N := 20) hx hb hts in_X8_luck_X8 hown hK hP 0 rfl rfl 0 (by decide) (hts (.fieldLink RX8 7 "BackLoansModel" "now" "[I") (by decide +kernel)) (fun _ h9 => h9) rfl dX8_luck_50 ?_
        refine lv_iload_n hx hb dX8_luck_53 rfl (lv_at hl 0 rfl) ?_
        obtain ⟨hi5, hf⟩ := gi_e hf
        refine va_iald hx hb hK hP 1 0 rfl rfl hi5 dX8_luck_54 ?_
        refine lv_imul hx hb dX8_luck_55 ?_
        refine lv_iadd hx hb dX8_luck_56 ?_
        refine lv_topi (fun x4_57 ex4_57 => ?_)
        replace hf := lett_s ex4_57 hf
        refine lv_istore (lv' := [(4, .int (x4_57)), (3, .int (x3_29)), (0, .ref (a 0)), (1, .int (x1)), (2, .int (x2))]) hx hb dX8_luck_57 hl (by decide) rfl (fun ls hl => ?_)
        refine lv_aload_n hx hb dX8_luck_59 rfl (lv_at hl 2 rfl) ?_
        refine va_get (D := (dC, dI)) (ci := 8) (v := .ref (a 1)) (C := RX8) (T := TX8) (N := 20) hx hb hts in_X8_luck_X8 hown hK hP 0 rfl rfl 0 (by decide) (hts (.fieldLink RX8 7 "BackLoansModel" "now" "[I") (by decide +kernel)) (fun _ h9 => h9) rfl dX8_luck_60 ?_
        refine lv_iload_n hx hb dX8_luck_63 rfl (lv_at hl 1 rfl) ?_
        refine lv_iconst (v := 2) hx hb dX8_luck_64 (by decide) ?_
        refine lv_iadd hx hb dX8_luck_65 ?_
        obtain ⟨hi6, hf⟩ := gi_e hf
        refine va_iald hx hb hK hP 1 0 rfl rfl hi6 dX8_luck_66 ?_
        refine lv_aload_n hx hb dX8_luck_67 rfl (lv_at hl 2 rfl) ?_
        refine va_get (D := (dC, dI)) (ci := 8) (v := .ref (a 1)) (C := RX8) (T := TX8) (N := 20) hx hb hts in_X8_luck_X8 hown hK hP 0 rfl rfl 0 (by decide) (hts (.fieldLink RX8 7 "BackLoansModel" "now" "[I") (by decide +kernel)) (fun _ h9 => h9) rfl dX8_luck_68 ?_
        refine lv_iload_n hx hb dX8_luck_71 rfl (lv_at hl 1 rfl) ?_
        refine lv_iconst (v := 4) hx hb dX8_luck_72 (by decide) ?_
        refine lv_iadd hx hb dX8_luck_73 ?_
        obtain ⟨hi7, hf⟩ := gi_e hf
        refine va_iald hx hb hK hP 1 0 rfl rfl hi7 dX8_luck_74 ?_
        refine lv_isub hx hb dX8_luck_75 ?_
        refine lv_topi (fun x5_76 ex5_76 => ?_)
        replace hf := lett_s ex5_76 hf
        refine lv_istore (lv' := [(5, .int (x5_76)), (4, .int (x4_57)), (3, .int (x3_29)), (0, .ref (a 0)), (1, .int (x1)), (2, .int (x2))]) hx hb dX8_luck_76 hl (by decide) rfl (fun ls hl => ?_)
        refine lv_lconst (v := 1) hx hb dX8_luck_78 (by decide) ?_
        refine lv_topl (fun x6_79 ex6_79 => ?_)
        replace hf := lett_s ex6_79 hf
        refine lv_lstore (lv' := [(6, .long (x6_79)), (5, .int (x5_76)), (4, .int (x4_57)), (3, .int (x3_29)), (0, .ref (a 0)), (1, .int (x1)), (2, .int (x2))]) hx hb dX8_luck_79 hl (by decide) rfl (fun ls hl => ?_)
        refine lv_iconst (v := 0) hx hb dX8_luck_81 (by decide) ?_
        refine lv_topi (fun x8_82 ex8_82 => ?_)
        replace hf := lett_s ex8_82 hf
        refine lv_istore (lv' := [(8, .int (x8_82)), (6, .long (x6_79)), (5, .int (x5_76)), (4, .int (x4_57)), (3, .int (x3_29)), (0, .ref (a 0)), (1, .int (x1)), (2, .int (x2))]) hx hb dX8_luck_82 hl (by decide) rfl (fun ls hl => ?_)
        exact w_X8_luck_84 C G hA hR x2 x3_29 x4_57 x5_76 M (fun x6 H locs ls hl hP hD hS hf => b_X8_luck_105 C G hA hR x2 x3_29 x4_57 x5_76 x6 M _ _ _ hl hP hD hS hf) FU x6_79 x8_82 _ _ _ (lv_sub hl [5, 7, 4, 3, 2, 1, 0] rfl) hP hD hS hf
      · replace hf := it_f c4 hf
        refine lv_aload_n hx hb dX8_luck_41 rfl (lv_at hl 1 rfl) ?_
        obtain ⟨r42, hr42, hf⟩ := bn_e hf
        have hPc := hP.sub (ws' := (wM cs a M)) [0, 1, 2, 3, 4, 5, 6, 7, 8, 9, 10, 11] rfl
        have hDc := hD.sub (ws' := (wM cs a M)) [0, 1, 2, 3, 4, 5, 6, 7, 8, 9, 10, 11] (by decide) rfl
        have hFc := va_free (wc := (wM cs a M)) hD hS hA [0, 1, 2, 3, 4, 5, 6, 7, 8, 9, 10, 11] rfl
        refine va_calli (va_runV (As := []) (rest := []) C (c_X8_no l dC dI cs a s.heap.size M r42 hr42) (cwV 0 hts gX8_luck_X8_no rfl rfl rfl (by decide +kernel) ⟨Nat.le_of_ble_eq_true rfl, Nat.le_of_ble_eq_true rfl⟩) ⟨(fun a U g mk q => ⟨q.1, q.2.1, q.2.2.1, GE.calling q.2.2.2.1, q.2.2.2.2⟩), va_recv hK hPc (ci := 8) (q0 := 0) rfl rfl, (fun U hU hW => ⟨rfl, by rw [hU], by rw [hU]; exact hPc, GE.warm hW G, hDc.weaken (fun _ _ _ _ => trivial)⟩)⟩ rfl rfl hl.1 rfl (lv_room (Nat.le_of_ble_eq_true rfl)) dX8_luck_42 ⟨Nat.le_of_ble_eq_true rfl, Nat.le_of_ble_eq_true rfl⟩) hS (fun q _ h => hFc q h) hFc (fun q u t H1 locs ht hvm hw hB hz1 hk1 hS => ?_)
        obtain ⟨rfl, rfl⟩ := hw
        obtain ⟨hP1, hD1⟩ := hB
        rw [ht] at hP1
        obtain ⟨hP, hD⟩ := va_join (wr := []) (w1 := (wM cs a r42.2)) hP hD [0, 1, 2, 3, 4, 5, 6, 7, 8, 9, 10, 11] [] rfl rfl (by decide) (by decide) hk1 hFc hP1 hD1
        generalize H1 = H at hP hS ⊢
        have hP := hP.sub (ws' := (wM cs a r42.2)) [0, 1, 2, 3, 4, 5, 6, 7, 8, 9, 10, 11] rfl
        have hD := hD.sub (ws' := (wM cs a r42.2)) [0, 1, 2, 3, 4, 5, 6, 7, 8, 9, 10, 11] (by decide) rfl
        exact hR _ _ _ _ _ _ dX8_luck_45 hf hP hD hS
    · replace hf := it_t c2 hf
      exact b_X8_luck_18 C G hA hR M _ _ _ (lv_sub hl [0] rfl) hP hD hS hf

theorem in_X8_drawn_X8 : ∀ w ∈ wsX80, w ∈ wsX8_drawn := by decide +kernel
def f_X8_drawn_40 (M : Ms)  : Option (Int32 × Ms) :=
  bn (f_X8_bad M) fun r41 =>
  some (r41.1, r41.2)
set_option maxHeartbeats 4000000 in
set_option maxRecDepth 100000 in
theorem b_X8_drawn_40 {p : Program} {l : Launch} {e : Env} {s : State} {m : MethodId} {args : Array Value} {below : List Frame} {meth : Method} {c : Code} {Q : State → Prop} {dC : Nat → ClassId} {dI : Nat → Nat → Nat} {cs : Nat → ClassId} {A : Nat → Prop} {a : Nat → Nat} {res : Int32 × Ms} (C : CallFix p m c cX8_drawn 10 s args wsX8_drawn RX8) (G : GE dC dI cs s) (hA : ∀ q : Nat, s.heap.size ≤ q → A q) (hR : RTi p l e ({ frames := 3, cells := 0, slots := 0, locals := 70 }) s m args below meth c cX8_drawn Q (dC, dI) A (fun u : Ms => (wM cs a u)) res) (M : Ms)   (H : Heap) (locs : List Loc) (ls : Array Slot) (hl : lv_has ls 10 [(0, .ref (a 0))]) (hP : va_P (dC, dI) vwCl (wM cs a M) H) (hD : va_D A (wM cs a M)) (hS : va_S A s.heap H locs) (hf : f_X8_drawn_40 M = some res) : W p l e ({ frames := 3, cells := 0, slots := 0, locals := 70 }) s m args below meth c H locs 0 0 Q (F0 m 40 ls []) := by
  obtain ⟨hx, hb, hml, hown, hts⟩ := id C
  obtain ⟨hK, hN⟩ := id G
  unfold f_X8_drawn_40 at hf
  refine lv_aload_n hx hb dX8_drawn_40 rfl (lv_at hl 0 rfl) ?_
  obtain ⟨r41, hr41, hf⟩ := bn_e hf
  have hPc := hP.sub (ws' := (wM cs a M)) [0, 1, 2, 3, 4, 5, 6, 7, 8, 9, 10, 11] rfl
  have hDc := hD.sub (ws' := (wM cs a M)) [0, 1, 2, 3, 4, 5, 6, 7, 8, 9, 10, 11] (by decide) rfl
  have hFc := va_free (wc := (wM cs a M)) hD hS hA [0, 1, 2, 3, 4, 5, 6, 7, 8, 9, 10, 11] rfl
  refine va_calli (va_runV (As := []) (rest := []) C (c_X8_bad l dC dI cs a H.size M r41 hr41) (cwV 0 hts gX8_drawn_X8_bad rfl rfl rfl (by decide +kernel) ⟨Nat.le_of_ble_eq_true rfl, Nat.le_of_ble_eq_true rfl⟩) ⟨(fun a U g mk q => ⟨q.1, q.2.1, q.2.2.1, GE.calling q.2.2.2.1, q.2.2.2.2⟩), va_recv hK hPc (ci := 8) (q0 := 0) rfl rfl, (fun U hU hW => ⟨rfl, by rw [hU], by rw [hU]; exact hPc, GE.warm hW G, hDc.weaken (fun _ _ _ _ => trivial)⟩)⟩ rfl rfl hl.1 rfl (lv_room (Nat.le_of_ble_eq_true rfl)) dX8_drawn_41 ⟨Nat.le_of_ble_eq_true rfl, Nat.le_of_ble_eq_true rfl⟩) hS (fun q _ h => hFc q h) hFc (fun q u t H1 locs ht hvm hw hB hz1 hk1 hS => ?_)
  obtain ⟨rfl, rfl⟩ := hw
  obtain ⟨hP1, hD1⟩ := hB
  rw [ht] at hP1
  obtain ⟨hP, hD⟩ := va_join (wr := []) (w1 := (wM cs a r41.2)) hP hD [0, 1, 2, 3, 4, 5, 6, 7, 8, 9, 10, 11] [] rfl rfl (by decide) (by decide) hk1 hFc hP1 hD1
  generalize H1 = H at hP hS ⊢
  have hP := hP.sub (ws' := (wM cs a r41.2)) [0, 1, 2, 3, 4, 5, 6, 7, 8, 9, 10, 11] rfl
  have hD := hD.sub (ws' := (wM cs a r41.2)) [0, 1, 2, 3, 4, 5, 6, 7, 8, 9, 10, 11] (by decide) rfl
  exact hR _ _ _ _ _ _ dX8_drawn_44 hf hP hD hS
def f_X8_drawn_121 (x2 : Int32) (x3 : Int32) (x4 : Int32) (x5 : Int64) (x7 : Int32) (x9 : Int32) (s0 : Int32) (s1 : Int32) (M : Ms) (K68 : Int64 → Int32 → Int32 → Option (Int32 × Ms)) : Option (Int32 × Ms) :=
  lett (s0 ||| s1) fun x8_122 =>
  lett (x9 + 1) fun x9_124 =>
  K68 x5 x8_122 x9_124
set_option maxHeartbeats 4000000 in
set_option maxRecDepth 100000 in
theorem b_X8_drawn_121 {p : Program} {l : Launch} {e : Env} {s : State} {m : MethodId} {args : Array Value} {below : List Frame} {meth : Method} {c : Code} {Q : State → Prop} {dC : Nat → ClassId} {dI : Nat → Nat → Nat} {cs : Nat → ClassId} {A : Nat → Prop} {a : Nat → Nat} {res : Int32 × Ms} (C : CallFix p m c cX8_drawn 10 s args wsX8_drawn RX8) (G : GE dC dI cs s) (hA : ∀ q : Nat, s.heap.size ≤ q → A q) (hR : RTi p l e ({ frames := 3, cells := 0, slots := 0, locals := 70 }) s m args below meth c cX8_drawn Q (dC, dI) A (fun u : Ms => (wM cs a u)) res) (x2 : Int32) (x3 : Int32) (x4 : Int32) (x5 : Int64) (x7 : Int32) (x9 : Int32) (s0 : Int32) (s1 : Int32) (M : Ms) {K68 : Int64 → Int32 → Int32 → Option (Int32 × Ms)} (hK68 : ∀ (x5 : Int64) (x8 : Int32) (x9 : Int32) (H : Heap) (locs : List Loc) (ls : Array Slot), lv_has ls 10 [(0, .ref (a 0)), (2, .int (x2)), (3, .int (x3)), (4, .int (x4)), (5, .long (x5)), (7, .int (x7)), (8, .int (x8)), (9, .int (x9))] → va_P (dC, dI) vwCl (wM cs a M) H → va_D A (wM cs a M) → va_S A s.heap H locs → K68 x5 x8 x9 = some res → W p l e ({ frames := 3, cells := 0, slots := 0, locals := 70 }) s m args below meth c H locs 0 0 Q (F0 m 68 ls [])) (H : Heap) (locs : List Loc) (ls : Array Slot) (hl : lv_has ls 10 [(0, .ref (a 0)), (2, .int (x2)), (3, .int (x3)), (4, .int (x4)), (5, .long (x5)), (7, .int (x7)), (9, .int (x9))]) (hP : va_P (dC, dI) vwCl (wM cs a M) H) (hD : va_D A (wM cs a M)) (hS : va_S A s.heap H locs) (hf : f_X8_drawn_121 x2 x3 x4 x5 x7 x9 s0 s1 M K68 = some res) : W p l e ({ frames := 3, cells := 0, slots := 0, locals := 70 }) s m args below meth c H locs 0 0 Q (F0 m 121 ls [.int (s1), .int (s0)]) := by
  obtain ⟨hx, hb, hml, hown, hts⟩ := id C
  obtain ⟨hK, hN⟩ := id G
  unfold f_X8_drawn_121 at hf
  refine lv_ior hx hb dX8_drawn_121 ?_
  refine lv_topi (fun x8_122 ex8_122 => ?_)
  replace hf := lett_s ex8_122 hf
  refine lv_istore (lv' := [(8, .int (x8_122)), (0, .ref (a 0)), (2, .int (x2)), (3, .int (x3)), (4, .int (x4)), (5, .long (x5)), (7, .int (x7)), (9, .int (x9))]) hx hb dX8_drawn_122 hl (by decide) rfl (fun ls hl => ?_)
  obtain ⟨x9_124, ex9_124⟩ : ∃ y : Int32, y = (x9 + 1) := ⟨_, rfl⟩
  replace hf := lett_s ex9_124 hf
  refine lv_iinc (v := x9_124) (lv' := [(9, .int (x9_124)), (8, .int (x8_122)), (0, .ref (a 0)), (2, .int (x2)), (3, .int (x3)), (4, .int (x4)), (5, .long (x5)), (7, .int (x7))]) hx hb dX8_drawn_124 hl (k := 7) rfl (by rw [ex9_124]; rfl) (by decide) rfl (fun ls hl => ?_)
  refine lv_goto (tgt := 68) hx hb dX8_drawn_127 (by decide) ?_
  exact hK68 x5 x8_122 x9_124 _ _ _ (lv_sub hl [2, 3, 4, 5, 6, 7, 1, 0] rfl) hP hD hS hf
def f_X8_drawn_68 (x2 : Int32) (x3 : Int32) (x4 : Int32) (x5 : Int64) (x7 : Int32) (x8 : Int32) (x9 : Int32) (M : Ms) (K68 : Int64 → Int32 → Int32 → Option (Int32 × Ms)) (K130 : Int64 → Int32 → Option (Int32 × Ms)) : Option (Int32 × Ms) :=
  gi ((3 : Int32)) 362 <|
  if ((M.2.2 0) ((3 : Int32)).toNatClampNeg) ≤ x9 then (
    K130 x5 x8
  ) else (
    lett (((x5 * (1103515245 : Int64)) + (12345 : Int64)) - ((x5 * (1103515245 : Int64)) + (12345 : Int64)) / (2147483648 : Int64) * (2147483648 : Int64)) fun x5_93 =>
    if 0 ≤ (lg_cmp ((x5_93 / (65536 : Int64)) - (x5_93 / (65536 : Int64)) / (100 : Int64) * (100 : Int64)) (x2).toInt64) then (
      f_X8_drawn_121 x2 x3 x4 x5_93 x7 x9 x8 (0 : Int32) M K68
    ) else (
      f_X8_drawn_121 x2 x3 x4 x5_93 x7 x9 x8 ((1 : Int32) <<< (x9 &&& 31)) M K68
    )
  )
set_option maxHeartbeats 4000000 in
set_option maxRecDepth 100000 in
theorem b_X8_drawn_68 {p : Program} {l : Launch} {e : Env} {s : State} {m : MethodId} {args : Array Value} {below : List Frame} {meth : Method} {c : Code} {Q : State → Prop} {dC : Nat → ClassId} {dI : Nat → Nat → Nat} {cs : Nat → ClassId} {A : Nat → Prop} {a : Nat → Nat} {res : Int32 × Ms} (C : CallFix p m c cX8_drawn 10 s args wsX8_drawn RX8) (G : GE dC dI cs s) (hA : ∀ q : Nat, s.heap.size ≤ q → A q) (hR : RTi p l e ({ frames := 3, cells := 0, slots := 0, locals := 70 }) s m args below meth c cX8_drawn Q (dC, dI) A (fun u : Ms => (wM cs a u)) res) (x2 : Int32) (x3 : Int32) (x4 : Int32) (x5 : Int64) (x7 : Int32) (x8 : Int32) (x9 : Int32) (M : Ms) {K68 : Int64 → Int32 → Int32 → Option (Int32 × Ms)} {K130 : Int64 → Int32 → Option (Int32 × Ms)} (hK68 : ∀ (x5 : Int64) (x8 : Int32) (x9 : Int32) (H : Heap) (locs : List Loc) (ls : Array Slot), lv_has ls 10 [(0, .ref (a 0)), (2, .int (x2)), (3, .int (x3)), (4, .int (x4)), (5, .long (x5)), (7, .int (x7)), (8, .int (x8)), (9, .int (x9))] → va_P (dC, dI) vwCl (wM cs a M) H → va_D A (wM cs a M) → va_S A s.heap H locs → K68 x5 x8 x9 = some res → W p l e ({ frames := 3, cells := 0, slots := 0, locals := 70 }) s m args below meth c H locs 0 0 Q (F0 m 68 ls [])) (hK130 : ∀ (x5 : Int64) (x8 : Int32) (H : Heap) (locs : List Loc) (ls : Array Slot), lv_has ls 10 [(0, .ref (a 0)), (2, .int (x2)), (3, .int (x3)), (4, .int (x4)), (5, .long (x5)), (7, .int (x7)), (8, .int (x8))] → va_P (dC, dI) vwCl (wM cs a M) H → va_D A (wM cs a M) → va_S A s.heap H locs → K130 x5 x8 = some res → W p l e ({ frames := 3, cells := 0, slots := 0, locals := 70 }) s m args below meth c H locs 0 0 Q (F0 m 130 ls [])) (H : Heap) (locs : List Loc) (ls : Array Slot) (hl : lv_has ls 10 [(0, .ref (a 0)), (2, .int (x2)), (3, .int (x3)), (4, .int (x4)), (5, .long (x5)), (7, .int (x7)), (8, .int (x8)), (9, .int (x9))]) (hP : va_P (dC, dI) vwCl (wM cs a M) H) (hD : va_D A (wM cs a M)) (hS : va_S A s.heap H locs) (hf : f_X8_drawn_68 x2 x3 x4 x5 x7 x8 x9 M K68 K130 = some res) : W p l e ({ frames := 3, cells := 0, slots := 0, locals := 70 }) s m args below meth c H locs 0 0 Q (F0 m 68 ls []) := by
  obtain ⟨hx, hb, hml, hown, hts⟩ := id C
  obtain ⟨hK, hN⟩ := id G
  unfold f_X8_drawn_68 at hf
  refine lv_iload hx hb dX8_drawn_68 (lv_at hl 7 rfl) ?_
  refine lv_aload_n hx hb dX8_drawn_70 rfl (lv_at hl 0 rfl) ?_
  refine va_get (D := (dC, dI)) (ci := 8) (v := .ref (a 1)) (C := RX8) (T := TX8) (N := 20) hx hb hts in_X8_drawn_X8 hown hK hP 0 rfl rfl 0 (by decide) (hts (.fieldLink RX8 7 "BackLoansModel" "now" "[I") (by decide +kernel)) (fun _ h9 => h9) rfl dX8_drawn_71 ?_
  refine lv_iconst (v := 3) hx hb dX8_drawn_74 (by decide) ?_
  obtain ⟨hi1, hf⟩ := gi_e hf
  refine va_iald hx hb hK hP 1 0 rfl rfl hi1 dX8_drawn_75 ?_
  refine lv_icmp_ge (tgt := 130) hx hb dX8_drawn_76 (by decide) (fun c2 => ?_) (fun c2 => ?_)
  · replace hf := it_t c2 hf
    exact hK130 x5 x8 _ _ _ (lv_sub hl [0, 1, 2, 3, 4, 5, 6] rfl) hP hD hS hf
  · replace hf := it_f c2 hf
    refine lv_lload hx hb dX8_drawn_79 (lv_at hl 4 rfl) ?_
    refine lv_ldc2 (v := 1103515245) hx hb hown (hts (.constantLong RX8 234 (1103515245)) (by decide +kernel)) dX8_drawn_81 ?_
    refine lv_lmul hx hb dX8_drawn_84 ?_
    refine lv_ldc2 (v := 12345) hx hb hown (hts (.constantLong RX8 236 (12345)) (by decide +kernel)) dX8_drawn_85 ?_
    refine lv_ladd hx hb dX8_drawn_88 ?_
    refine lv_ldc2 (v := 2147483648) hx hb hown (hts (.constantLong RX8 238 (2147483648)) (by decide +kernel)) dX8_drawn_89 ?_
    refine lv_lrem hx hb dX8_drawn_92 (by decide) ?_
    refine lv_topl (fun x5_93 ex5_93 => ?_)
    replace hf := lett_s ex5_93 hf
    refine lv_lstore (lv' := [(5, .long (x5_93)), (0, .ref (a 0)), (2, .int (x2)), (3, .int (x3)), (4, .int (x4)), (7, .int (x7)), (8, .int (x8)), (9, .int (x9))]) hx hb dX8_drawn_93 hl (by decide) rfl (fun ls hl => ?_)
    refine lv_iload hx hb dX8_drawn_95 (lv_at hl 6 rfl) ?_
    refine lv_lload hx hb dX8_drawn_97 (lv_at hl 0 rfl) ?_
    refine lv_ldc2 (v := 65536) hx hb hown (hts (.constantLong RX8 240 (65536)) (by decide +kernel)) dX8_drawn_99 ?_
    refine lv_ldiv hx hb dX8_drawn_102 (by decide) ?_
    refine lv_ldc2 (v := 100) hx hb hown (hts (.constantLong RX8 242 (100)) (by decide +kernel)) dX8_drawn_103 ?_
    refine lv_lrem hx hb dX8_drawn_106 (by decide) ?_
    refine lv_iload_n hx hb dX8_drawn_107 rfl (lv_at hl 2 rfl) ?_
    refine lv_i2l hx hb dX8_drawn_108 rfl ?_
    refine W.lcmp hx hb dX8_drawn_109 ?_
    refine lv_if_ge (tgt := 120) hx hb dX8_drawn_110 (by decide) (fun c3 => ?_) (fun c3 => ?_)
    · replace hf := it_t c3 hf
      refine lv_iconst (v := 0) hx hb dX8_drawn_120 (by decide) ?_
      exact b_X8_drawn_121 C G hA hR x2 x3 x4 x5_93 x7 x9 x8 (0 : Int32) M hK68 _ _ _ (lv_sub hl [1, 2, 3, 4, 0, 5, 7] rfl) hP hD hS hf
    · replace hf := it_f c3 hf
      refine lv_iconst (v := 1) hx hb dX8_drawn_113 (by decide) ?_
      refine lv_iload hx hb dX8_drawn_114 (lv_at hl 7 rfl) ?_
      refine lv_ishl hx hb dX8_drawn_116 ?_
      refine lv_goto (tgt := 121) hx hb dX8_drawn_117 (by decide) ?_
      exact b_X8_drawn_121 C G hA hR x2 x3 x4 x5_93 x7 x9 x8 ((1 : Int32) <<< (x9 &&& 31)) M hK68 _ _ _ (lv_sub hl [1, 2, 3, 4, 0, 5, 7] rfl) hP hD hS hf
def l_X8_drawn_68 (x2 : Int32) (x3 : Int32) (x4 : Int32) (x7 : Int32) (M : Ms) (K130 : Int64 → Int32 → Option (Int32 × Ms)) (n : Nat) (x5 : Int64) (x8 : Int32) (x9 : Int32) : Option (Int32 × Ms) := itr (fun (k : Int64 × Int32 × Int32 → Option (Int32 × Ms)) (z : Int64 × Int32 × Int32) => f_X8_drawn_68 x2 x3 x4 z.1 x7 z.2.1 z.2.2 M (fun x5 x8 x9 => k (x5, x8, x9)) K130) n (x5, x8, x9)
set_option maxHeartbeats 4000000 in
set_option maxRecDepth 100000 in
theorem w_X8_drawn_68 {p : Program} {l : Launch} {e : Env} {s : State} {m : MethodId} {args : Array Value} {below : List Frame} {meth : Method} {c : Code} {Q : State → Prop} {dC : Nat → ClassId} {dI : Nat → Nat → Nat} {cs : Nat → ClassId} {A : Nat → Prop} {a : Nat → Nat} {res : Int32 × Ms} (C : CallFix p m c cX8_drawn 10 s args wsX8_drawn RX8) (G : GE dC dI cs s) (hA : ∀ q : Nat, s.heap.size ≤ q → A q) (hR : RTi p l e ({ frames := 3, cells := 0, slots := 0, locals := 70 }) s m args below meth c cX8_drawn Q (dC, dI) A (fun u : Ms => (wM cs a u)) res) (x2 : Int32) (x3 : Int32) (x4 : Int32) (x7 : Int32) (M : Ms) {K130 : Int64 → Int32 → Option (Int32 × Ms)} (hK130 : ∀ (x5 : Int64) (x8 : Int32) (H : Heap) (locs : List Loc) (ls : Array Slot), lv_has ls 10 [(0, .ref (a 0)), (2, .int (x2)), (3, .int (x3)), (4, .int (x4)), (5, .long (x5)), (7, .int (x7)), (8, .int (x8))] → va_P (dC, dI) vwCl (wM cs a M) H → va_D A (wM cs a M) → va_S A s.heap H locs → K130 x5 x8 = some res → W p l e ({ frames := 3, cells := 0, slots := 0, locals := 70 }) s m args below meth c H locs 0 0 Q (F0 m 130 ls [])) : ∀ (n : Nat) (x5 : Int64) (x8 : Int32) (x9 : Int32) (H : Heap) (locs : List Loc) (ls : Array Slot), lv_has ls 10 [(0, .ref (a 0)), (2, .int (x2)), (3, .int (x3)), (4, .int (x4)), (5, .long (x5)), (7, .int (x7)), (8, .int (x8)), (9, .int (x9))] → va_P (dC, dI) vwCl (wM cs a M) H → va_D A (wM cs a M) → va_S A s.heap H locs → l_X8_drawn_68 x2 x3 x4 x7 M K130 n x5 x8 x9 = some res → W p l e ({ frames := 3, cells := 0, slots := 0, locals := 70 }) s m args below meth c H locs 0 0 Q (F0 m 68 ls []) := by
  intro n
  induction n with
  | zero => intro x5 x8 x9 H locs ls hl hP hD hS hf; exact absurd hf (by simp [l_X8_drawn_68, itr])
  | succ n ih =>
    intro x5 x8 x9 H locs ls hl hP hD hS hf
    replace hf : f_X8_drawn_68 x2 x3 x4 x5 x7 x8 x9 M (fun x5 x8 x9 => l_X8_drawn_68 x2 x3 x4 x7 M K130 n x5 x8 x9) K130 = some res := by rw [← hf]; unfold l_X8_drawn_68; rw [itr_s]
    exact b_X8_drawn_68 C G hA hR x2 x3 x4 x5 x7 x8 x9 M (K68 := fun x5 x8 x9 => l_X8_drawn_68 x2 x3 x4 x7 M K130 n x5 x8 x9) (fun x5 x8 x9 H locs ls hl hP hD hS hf => ih x5 x8 x9 H locs ls hl hP hD hS hf) hK130 H locs ls hl hP hD hS hf
def f_X8_drawn_130 (x2 : Int32) (x3 : Int32) (x4 : Int32) (x5 : Int64) (x7 : Int32) (x8 : Int32) (M : Ms) (K56 : Int64 → Int32 → Ms → Option (Int32 × Ms)) : Option (Int32 × Ms) :=
  bn (f_X8_month x8 (M.2.2 1)) fun r136 =>
  lett ((M.1, M.2.1, va_up M.2.2 1 (r136.2))) fun M_136 =>
  lett (x7 + 1) fun x7_140 =>
  K56 x5 x7_140 M_136
set_option maxHeartbeats 4000000 in
set_option maxRecDepth 100000 in
theorem b_X8_drawn_130 {p : Program} {l : Launch} {e : Env} {s : State} {m : MethodId} {args : Array Value} {below : List Frame} {meth : Method} {c : Code} {Q : State → Prop} {dC : Nat → ClassId} {dI : Nat → Nat → Nat} {cs : Nat → ClassId} {A : Nat → Prop} {a : Nat → Nat} {res : Int32 × Ms} (C : CallFix p m c cX8_drawn 10 s args wsX8_drawn RX8) (G : GE dC dI cs s) (hA : ∀ q : Nat, s.heap.size ≤ q → A q) (hR : RTi p l e ({ frames := 3, cells := 0, slots := 0, locals := 70 }) s m args below meth c cX8_drawn Q (dC, dI) A (fun u : Ms => (wM cs a u)) res) (x2 : Int32) (x3 : Int32) (x4 : Int32) (x5 : Int64) (x7 : Int32) (x8 : Int32) (M : Ms) {K56 : Int64 → Int32 → Ms → Option (Int32 × Ms)} (hK56 : ∀ (x5 : Int64) (x7 : Int32) (M : Ms) (H : Heap) (locs : List Loc) (ls : Array Slot), lv_has ls 10 [(0, .ref (a 0)), (2, .int (x2)), (3, .int (x3)), (4, .int (x4)), (5, .long (x5)), (7, .int (x7))] → va_P (dC, dI) vwCl (wM cs a M) H → va_D A (wM cs a M) → va_S A s.heap H locs → K56 x5 x7 M = some res → W p l e ({ frames := 3, cells := 0, slots := 0, locals := 70 }) s m args below meth c H locs 0 0 Q (F0 m 56 ls [])) (H : Heap) (locs : List Loc) (ls : Array Slot) (hl : lv_has ls 10 [(0, .ref (a 0)), (2, .int (x2)), (3, .int (x3)), (4, .int (x4)), (5, .long (x5)), (7, .int (x7)), (8, .int (x8))]) (hP : va_P (dC, dI) vwCl (wM cs a M) H) (hD : va_D A (wM cs a M)) (hS : va_S A s.heap H locs) (hf : f_X8_drawn_130 x2 x3 x4 x5 x7 x8 M K56 = some res) : W p l e ({ frames := 3, cells := 0, slots := 0, locals := 70 }) s m args below meth c H locs 0 0 Q (F0 m 130 ls []) := by
  obtain ⟨hx, hb, hml, hown, hts⟩ := id C
  obtain ⟨hK, hN⟩ := id G
  unfold f_X8_drawn_130 at hf
  refine lv_aload_n hx hb dX8_drawn_130 rfl (lv_at hl 0 rfl) ?_
  refine va_get (D := (dC, dI)) (ci := 8) (v := .ref (a 2)) (C := RX8) (T := TX8) (N := 20) hx hb hts in_X8_drawn_X8 hown hK hP 0 rfl rfl 1 (by decide) (hts (.fieldLink RX8 13 "BackLoansModel" "tried" "[I") (by decide +kernel)) (fun _ h9 => h9) rfl dX8_drawn_131 ?_
  refine lv_iload hx hb dX8_drawn_134 (lv_at hl 6 rfl) ?_
  obtain ⟨r136, hr136, hf⟩ := bn_e hf
  have hPc := hP.sub (ws' := (wA cs (a 2) 362 (M.2.2 1))) [2] rfl
  have hDc := hD.sub (ws' := (wA cs (a 2) 362 (M.2.2 1))) [2] (by decide) rfl
  have hFc := va_free (wc := (wA cs (a 2) 362 (M.2.2 1))) hD hS hA [2] rfl
  refine va_calli (va_runS (As := [.ref (a 2), .int (x8)]) (rest := []) C (c_X8_month l dC dI cs (a 2) H.size (M.2.2 1) x8 r136 hr136) (va_cwS 2 hts gX8_drawn_X8_month rfl rfl rfl (by decide +kernel) ⟨Nat.le_of_ble_eq_true rfl, Nat.le_of_ble_eq_true rfl⟩) ⟨(fun a U g mk q => ⟨q.1, q.2.1, q.2.2.1, GE.calling q.2.2.2.1, q.2.2.2.2⟩), (fun U hU hW => ⟨rfl, by rw [hU], by rw [hU]; exact hPc, GE.warm hW G, hDc.weaken (fun _ _ _ _ => trivial)⟩)⟩ rfl rfl hl.1 rfl (lv_room (Nat.le_of_ble_eq_true rfl)) dX8_drawn_136 ⟨Nat.le_of_ble_eq_true rfl, Nat.le_of_ble_eq_true rfl⟩) hS (fun q _ h => hFc q h) hFc (fun q u t H1 locs ht hvm hw hB hz1 hk1 hS => ?_)
  obtain ⟨rfl, rfl⟩ := hw
  obtain ⟨hP1, hD1⟩ := hB
  rw [ht] at hP1
  obtain ⟨hP, hD⟩ := va_join (wr := [0, 1, 3, 4, 5, 6, 7, 8, 9, 10, 11].filterMap (fun i => ((wM cs a M))[i]?)) (w1 := (wA cs (a 2) 362 r136.2)) hP hD [2] [0, 1, 3, 4, 5, 6, 7, 8, 9, 10, 11] rfl rfl (by decide) (by decide) hk1 hFc hP1 hD1
  generalize H1 = H at hP hS ⊢
  have hP := hP.sub (ws' := (wM cs a (M.1, M.2.1, va_up M.2.2 1 (r136.2)))) [0, 1, 11, 2, 3, 4, 5, 6, 7, 8, 9, 10] rfl
  have hD := hD.sub (ws' := (wM cs a (M.1, M.2.1, va_up M.2.2 1 (r136.2)))) [0, 1, 11, 2, 3, 4, 5, 6, 7, 8, 9, 10] (by decide) rfl
  obtain ⟨M_136, hP, hD, hf⟩ := st_nm (ws := fun M_136 : Ms => (wM cs a M_136)) ((M.1, M.2.1, va_up M.2.2 1 (r136.2))) hP hD hf
  refine lv_pop hx hb dX8_drawn_139 rfl ?_
  obtain ⟨x7_140, ex7_140⟩ : ∃ y : Int32, y = (x7 + 1) := ⟨_, rfl⟩
  replace hf := lett_s ex7_140 hf
  refine lv_iinc (v := x7_140) (lv' := [(7, .int (x7_140)), (0, .ref (a 0)), (2, .int (x2)), (3, .int (x3)), (4, .int (x4)), (5, .long (x5)), (8, .int (x8))]) hx hb dX8_drawn_140 hl (k := 5) rfl (by rw [ex7_140]; rfl) (by decide) rfl (fun ls hl => ?_)
  refine lv_goto (tgt := 56) hx hb dX8_drawn_143 (by decide) ?_
  exact hK56 x5 x7_140 M_136 _ _ _ (lv_sub hl [1, 2, 3, 4, 5, 0] rfl) hP hD hS hf
def f_X8_drawn_56 (x2 : Int32) (x3 : Int32) (x4 : Int32) (x5 : Int64) (x7 : Int32) (M : Ms) (K56 : Int64 → Int32 → Ms → Option (Int32 × Ms)) (K146 : Ms → Option (Int32 × Ms)) : Option (Int32 × Ms) :=
  if x3 ≤ x7 then (
    K146 M
  ) else (
    lett (0 : Int32) fun x8_63 =>
    lett (0 : Int32) fun x9_66 =>
    l_X8_drawn_68 x2 x3 x4 x7 M (fun x5 x8 => f_X8_drawn_130 x2 x3 x4 x5 x7 x8 M K56) FU x5 x8_63 x9_66
  )
set_option maxHeartbeats 4000000 in
set_option maxRecDepth 100000 in
theorem b_X8_drawn_56 {p : Program} {l : Launch} {e : Env} {s : State} {m : MethodId} {args : Array Value} {below : List Frame} {meth : Method} {c : Code} {Q : State → Prop} {dC : Nat → ClassId} {dI : Nat → Nat → Nat} {cs : Nat → ClassId} {A : Nat → Prop} {a : Nat → Nat} {res : Int32 × Ms} (C : CallFix p m c cX8_drawn 10 s args wsX8_drawn RX8) (G : GE dC dI cs s) (hA : ∀ q : Nat, s.heap.size ≤ q → A q) (hR : RTi p l e ({ frames := 3, cells := 0, slots := 0, locals := 70 }) s m args below meth c cX8_drawn Q (dC, dI) A (fun u : Ms => (wM cs a u)) res) (x2 : Int32) (x3 : Int32) (x4 : Int32) (x5 : Int64) (x7 : Int32) (M : Ms) {K56 : Int64 → Int32 → Ms → Option (Int32 × Ms)} {K146 : Ms → Option (Int32 × Ms)} (hK56 : ∀ (x5 : Int64) (x7 : Int32) (M : Ms) (H : Heap) (locs : List Loc) (ls : Array Slot), lv_has ls 10 [(0, .ref (a 0)), (2, .int (x2)), (3, .int (x3)), (4, .int (x4)), (5, .long (x5)), (7, .int (x7))] → va_P (dC, dI) vwCl (wM cs a M) H → va_D A (wM cs a M) → va_S A s.heap H locs → K56 x5 x7 M = some res → W p l e ({ frames := 3, cells := 0, slots := 0, locals := 70 }) s m args below meth c H locs 0 0 Q (F0 m 56 ls [])) (hK146 : ∀ (M : Ms) (H : Heap) (locs : List Loc) (ls : Array Slot), lv_has ls 10 [(0, .ref (a 0)), (4, .int (x4))] → va_P (dC, dI) vwCl (wM cs a M) H → va_D A (wM cs a M) → va_S A s.heap H locs → K146 M = some res → W p l e ({ frames := 3, cells := 0, slots := 0, locals := 70 }) s m args below meth c H locs 0 0 Q (F0 m 146 ls [])) (H : Heap) (locs : List Loc) (ls : Array Slot) (hl : lv_has ls 10 [(0, .ref (a 0)), (2, .int (x2)), (3, .int (x3)), (4, .int (x4)), (5, .long (x5)), (7, .int (x7))]) (hP : va_P (dC, dI) vwCl (wM cs a M) H) (hD : va_D A (wM cs a M)) (hS : va_S A s.heap H locs) (hf : f_X8_drawn_56 x2 x3 x4 x5 x7 M K56 K146 = some res) : W p l e ({ frames := 3, cells := 0, slots := 0, locals := 70 }) s m args below meth c H locs 0 0 Q (F0 m 56 ls []) := by
  obtain ⟨hx, hb, hml, hown, hts⟩ := id C
  obtain ⟨hK, hN⟩ := id G
  unfold f_X8_drawn_56 at hf
  refine lv_iload hx hb dX8_drawn_56 (lv_at hl 5 rfl) ?_
  refine lv_iload_n hx hb dX8_drawn_58 rfl (lv_at hl 2 rfl) ?_
  refine lv_icmp_ge (tgt := 146) hx hb dX8_drawn_59 (by decide) (fun c1 => ?_) (fun c1 => ?_)
  · replace hf := it_t c1 hf
    exact hK146 M _ _ _ (lv_sub hl [0, 3] rfl) hP hD hS hf
  · replace hf := it_f c1 hf
    refine lv_iconst (v := 0) hx hb dX8_drawn_62 (by decide) ?_
    refine lv_topi (fun x8_63 ex8_63 => ?_)
    replace hf := lett_s ex8_63 hf
    refine lv_istore (lv' := [(8, .int (x8_63)), (0, .ref (a 0)), (2, .int (x2)), (3, .int (x3)), (4, .int (x4)), (5, .long (x5)), (7, .int (x7))]) hx hb dX8_drawn_63 hl (by decide) rfl (fun ls hl => ?_)
    refine lv_iconst (v := 0) hx hb dX8_drawn_65 (by decide) ?_
    refine lv_topi (fun x9_66 ex9_66 => ?_)
    replace hf := lett_s ex9_66 hf
    refine lv_istore (lv' := [(9, .int (x9_66)), (8, .int (x8_63)), (0, .ref (a 0)), (2, .int (x2)), (3, .int (x3)), (4, .int (x4)), (5, .long (x5)), (7, .int (x7))]) hx hb dX8_drawn_66 hl (by decide) rfl (fun ls hl => ?_)
    exact w_X8_drawn_68 C G hA hR x2 x3 x4 x7 M (fun x5 x8 H locs ls hl hP hD hS hf => b_X8_drawn_130 C G hA hR x2 x3 x4 x5 x7 x8 M hK56 _ _ _ hl hP hD hS hf) FU x5 x8_63 x9_66 _ _ _ (lv_sub hl [2, 3, 4, 5, 6, 7, 1, 0] rfl) hP hD hS hf
def l_X8_drawn_56 (x2 : Int32) (x3 : Int32) (x4 : Int32) (K146 : Ms → Option (Int32 × Ms)) (n : Nat) (x5 : Int64) (x7 : Int32) (M : Ms) : Option (Int32 × Ms) := itr (fun (k : Int64 × Int32 × Ms → Option (Int32 × Ms)) (z : Int64 × Int32 × Ms) => f_X8_drawn_56 x2 x3 x4 z.1 z.2.1 z.2.2 (fun x5 x7 M => k (x5, x7, M)) K146) n (x5, x7, M)
set_option maxHeartbeats 4000000 in
set_option maxRecDepth 100000 in
theorem w_X8_drawn_56 {p : Program} {l : Launch} {e : Env} {s : State} {m : MethodId} {args : Array Value} {below : List Frame} {meth : Method} {c : Code} {Q : State → Prop} {dC : Nat → ClassId} {dI : Nat → Nat → Nat} {cs : Nat → ClassId} {A : Nat → Prop} {a : Nat → Nat} {res : Int32 × Ms} (C : CallFix p m c cX8_drawn 10 s args wsX8_drawn RX8) (G : GE dC dI cs s) (hA : ∀ q : Nat, s.heap.size ≤ q → A q) (hR : RTi p l e ({ frames := 3, cells := 0, slots := 0, locals := 70 }) s m args below meth c cX8_drawn Q (dC, dI) A (fun u : Ms => (wM cs a u)) res) (x2 : Int32) (x3 : Int32) (x4 : Int32) {K146 : Ms → Option (Int32 × Ms)} (hK146 : ∀ (M : Ms) (H : Heap) (locs : List Loc) (ls : Array Slot), lv_has ls 10 [(0, .ref (a 0)), (4, .int (x4))] → va_P (dC, dI) vwCl (wM cs a M) H → va_D A (wM cs a M) → va_S A s.heap H locs → K146 M = some res → W p l e ({ frames := 3, cells := 0, slots := 0, locals := 70 }) s m args below meth c H locs 0 0 Q (F0 m 146 ls [])) : ∀ (n : Nat) (x5 : Int64) (x7 : Int32) (M : Ms) (H : Heap) (locs : List Loc) (ls : Array Slot), lv_has ls 10 [(0, .ref (a 0)), (2, .int (x2)), (3, .int (x3)), (4, .int (x4)), (5, .long (x5)), (7, .int (x7))] → va_P (dC, dI) vwCl (wM cs a M) H → va_D A (wM cs a M) → va_S A s.heap H locs → l_X8_drawn_56 x2 x3 x4 K146 n x5 x7 M = some res → W p l e ({ frames := 3, cells := 0, slots := 0, locals := 70 }) s m args below meth c H locs 0 0 Q (F0 m 56 ls []) := by
  intro n
  induction n with
  | zero => intro x5 x7 M H locs ls hl hP hD hS hf; exact absurd hf (by simp [l_X8_drawn_56, itr])
  | succ n ih =>
    intro x5 x7 M H locs ls hl hP hD hS hf
    replace hf : f_X8_drawn_56 x2 x3 x4 x5 x7 M (fun x5 x7 M => l_X8_drawn_56 x2 x3 x4 K146 n x5 x7 M) K146 = some res := by rw [← hf]; unfold l_X8_drawn_56; rw [itr_s]
    exact b_X8_drawn_56 C G hA hR x2 x3 x4 x5 x7 M (K56 := fun x5 x7 M => l_X8_drawn_56 x2 x3 x4 K146 n x5 x7 M) (fun x5 x7 M H locs ls hl hP hD hS hf => ih x5 x7 M H locs ls hl hP hD hS hf) hK146 H locs ls hl hP hD hS hf
def f_X8_drawn_160 (s1 : Int32) (M : Ms)  : Option (Int32 × Ms) :=
  gi ((4 : Int32)) 362 <|
  bn (f_X8_many s1 ((M.2.2 0) ((4 : Int32)).toNatClampNeg) (M.2.2 1)) fun r166 =>
  some (r166, M)
set_option maxHeartbeats 4000000 in
set_option maxRecDepth 100000 in
theorem b_X8_drawn_160 {p : Program} {l : Launch} {e : Env} {s : State} {m : MethodId} {args : Array Value} {below : List Frame} {meth : Method} {c : Code} {Q : State → Prop} {dC : Nat → ClassId} {dI : Nat → Nat → Nat} {cs : Nat → ClassId} {A : Nat → Prop} {a : Nat → Nat} {res : Int32 × Ms} (C : CallFix p m c cX8_drawn 10 s args wsX8_drawn RX8) (G : GE dC dI cs s) (hA : ∀ q : Nat, s.heap.size ≤ q → A q) (hR : RTi p l e ({ frames := 3, cells := 0, slots := 0, locals := 70 }) s m args below meth c cX8_drawn Q (dC, dI) A (fun u : Ms => (wM cs a u)) res) (s1 : Int32) (M : Ms)   (H : Heap) (locs : List Loc) (ls : Array Slot) (hl : lv_has ls 10 [(0, .ref (a 0))]) (hP : va_P (dC, dI) vwCl (wM cs a M) H) (hD : va_D A (wM cs a M)) (hS : va_S A s.heap H locs) (hf : f_X8_drawn_160 s1 M = some res) : W p l e ({ frames := 3, cells := 0, slots := 0, locals := 70 }) s m args below meth c H locs 0 0 Q (F0 m 160 ls [.int (s1), .ref (a 2)]) := by
  obtain ⟨hx, hb, hml, hown, hts⟩ := id C
  obtain ⟨hK, hN⟩ := id G
  unfold f_X8_drawn_160 at hf
  refine lv_aload_n hx hb dX8_drawn_160 rfl (lv_at hl 0 rfl) ?_
  refine va_get (D := (dC, dI)) (ci := 8) (v := .ref (a 1)) (C := RX8) (T := TX8) (N := 20) hx hb hts in_X8_drawn_X8 hown hK hP 0 rfl rfl 0 (by decide) (hts (.fieldLink RX8 7 "BackLoansModel" "now" "[I") (by decide +kernel)) (fun _ h9 => h9) rfl dX8_drawn_161 ?_
  refine lv_iconst (v := 4) hx hb dX8_drawn_164 (by decide) ?_
  obtain ⟨hi1, hf⟩ := gi_e hf
  refine va_iald hx hb hK hP 1 0 rfl rfl hi1 dX8_drawn_165 ?_
  obtain ⟨r166, hr166, hf⟩ := bn_e hf
  have hPc := hP.sub (ws' := (wA cs (a 2) 362 (M.2.2 1))) [2] rfl
  refine vp_callSi (W.runS (As := [.ref (a 2), .int (s1), .int (((M.2.2 0) ((4 : Int32)).toNatClampNeg))]) (rest := []) C (c_X8_many l dC dI cs (a 2) (M.2.2 1) s1 ((M.2.2 0) ((4 : Int32)).toNatClampNeg) r166 hr166) (va_cwS 3 hts gX8_drawn_X8_many rfl rfl rfl (by decide +kernel) ⟨Nat.le_of_ble_eq_true rfl, Nat.le_of_ble_eq_true rfl⟩) ⟨(fun a U g mk q => ⟨q.1, q.2.1, GE.calling q.2.2⟩), (fun U hU hW => ⟨rfl, by rw [hU]; exact hPc, GE.warm hW G⟩)⟩ rfl rfl hl.1 rfl (lv_room (Nat.le_of_ble_eq_true rfl)) dX8_drawn_166 ⟨Nat.le_of_ble_eq_true rfl, Nat.le_of_ble_eq_true rfl⟩) (fun qr166 hqr166 => ?_)
  obtain rfl := hqr166.symm
  exact hR _ _ _ _ _ _ dX8_drawn_169 hf hP hD hS
def f_X8_drawn_146 (x4 : Int32) (M : Ms)  : Option (Int32 × Ms) :=
  if x4 = 0 then (
    f_X8_drawn_160 (1 : Int32) M
  ) else (
    f_X8_drawn_160 (2 : Int32) M
  )
set_option maxHeartbeats 4000000 in
set_option maxRecDepth 100000 in
theorem b_X8_drawn_146 {p : Program} {l : Launch} {e : Env} {s : State} {m : MethodId} {args : Array Value} {below : List Frame} {meth : Method} {c : Code} {Q : State → Prop} {dC : Nat → ClassId} {dI : Nat → Nat → Nat} {cs : Nat → ClassId} {A : Nat → Prop} {a : Nat → Nat} {res : Int32 × Ms} (C : CallFix p m c cX8_drawn 10 s args wsX8_drawn RX8) (G : GE dC dI cs s) (hA : ∀ q : Nat, s.heap.size ≤ q → A q) (hR : RTi p l e ({ frames := 3, cells := 0, slots := 0, locals := 70 }) s m args below meth c cX8_drawn Q (dC, dI) A (fun u : Ms => (wM cs a u)) res) (x4 : Int32) (M : Ms)   (H : Heap) (locs : List Loc) (ls : Array Slot) (hl : lv_has ls 10 [(0, .ref (a 0)), (4, .int (x4))]) (hP : va_P (dC, dI) vwCl (wM cs a M) H) (hD : va_D A (wM cs a M)) (hS : va_S A s.heap H locs) (hf : f_X8_drawn_146 x4 M = some res) : W p l e ({ frames := 3, cells := 0, slots := 0, locals := 70 }) s m args below meth c H locs 0 0 Q (F0 m 146 ls []) := by
  obtain ⟨hx, hb, hml, hown, hts⟩ := id C
  obtain ⟨hK, hN⟩ := id G
  unfold f_X8_drawn_146 at hf
  refine lv_aload_n hx hb dX8_drawn_146 rfl (lv_at hl 0 rfl) ?_
  refine va_get (D := (dC, dI)) (ci := 8) (v := .ref (a 2)) (C := RX8) (T := TX8) (N := 20) hx hb hts in_X8_drawn_X8 hown hK hP 0 rfl rfl 1 (by decide) (hts (.fieldLink RX8 13 "BackLoansModel" "tried" "[I") (by decide +kernel)) (fun _ h9 => h9) rfl dX8_drawn_147 ?_
  refine lv_iload hx hb dX8_drawn_150 (lv_at hl 1 rfl) ?_
  refine lv_if_ne (tgt := 159) hx hb dX8_drawn_152 (by decide) (fun c1 => ?_) (fun c1 => ?_)
  · replace hf := it_f c1 hf
    refine lv_iconst (v := 2) hx hb dX8_drawn_159 (by decide) ?_
    exact b_X8_drawn_160 C G hA hR (2 : Int32) M _ _ _ (lv_sub hl [0] rfl) hP hD hS hf
  · replace hf := it_t c1 hf
    refine lv_iconst (v := 1) hx hb dX8_drawn_155 (by decide) ?_
    refine lv_goto (tgt := 160) hx hb dX8_drawn_156 (by decide) ?_
    exact b_X8_drawn_160 C G hA hR (1 : Int32) M _ _ _ (lv_sub hl [0] rfl) hP hD hS hf
def f_X8_drawn (x1 : Int32) (x2 : Int32) (x3 : Int32) (x4 : Int32) (M : Ms) : Option (Int32 × Ms) :=
  bn (f_X8_in x1 (0 : Int32) (999999 : Int32)) fun r4 =>
  if r4 = 0 then (
    f_X8_drawn_40 M
  ) else (
    bn (f_X8_in x2 (0 : Int32) (100 : Int32)) fun r14 =>
    if r14 = 0 then (
      f_X8_drawn_40 M
    ) else (
      bn (f_X8_in x3 (0 : Int32) (60 : Int32)) fun r24 =>
      if r24 = 0 then (
        f_X8_drawn_40 M
      ) else (
        bn (f_X8_in x4 (0 : Int32) (1 : Int32)) fun r34 =>
        if r34 = 0 then (
          f_X8_drawn_40 M
        ) else (
          bn (f_X8_tries M) fun r46 =>
          lett ((x1).toInt64) fun x5_51 =>
          lett (0 : Int32) fun x7_54 =>
          l_X8_drawn_56 x2 x3 x4 (fun Mz => f_X8_drawn_146 x4 Mz) FU x5_51 x7_54 r46
        )
      )
    )
  )
set_option maxHeartbeats 4000000 in
set_option maxRecDepth 100000 in
theorem c_X8_drawn (l : Launch) (dC : Nat → ClassId) (dI : Nat → Nat → Nat) (cs : Nat → ClassId) (a : Nat → Nat) (sz : Nat) (M : Ms) (x1 : Int32) (x2 : Int32) (x3 : Int32) (x4 : Int32) (res : Int32 × Ms) (hf : f_X8_drawn x1 x2 x3 x4 M = some res) : Met l yX8_drawn wsX8_drawn ({ frames := 3, cells := 0, slots := 0, locals := 70 }) (va_Pc [.ref (a 0), .int (x1), .int (x2), .int (x3), .int (x4)] (fun U => U.heap.size = sz ∧ va_P (dC, dI) vwCl (wM cs a M) U.heap ∧ GE dC dI cs U ∧ va_D (fun _ => True) (wM cs a M))) (va_Qi (fun r (u : Ms) => r = res.1 ∧ u = res.2) (fun u t => va_P (dC, dI) vwCl ((fun u : Ms => (wM cs a u)) u) t.heap ∧ va_D (va_A (wM cs a M) sz) ((fun u : Ms => (wM cs a u)) u)) (va_A (wM cs a M) sz)) 0 0 (va_A (wM cs a M) sz) := by
  refine Met.ofW (cc := cX8_drawn) (maxL := 10) (ret := (some .int)) (by decide) rfl ?_
  intro p e s m args below meth c s₁ Bd hml hv
  obtain ⟨rfl, hsz, hP, G, hD0⟩ := hv
  have hts := atoms_spec (ws := wsX8_drawn) Bd.pre
  have hown : s.vm.findClass RX8 = some m.cls := findClass_of_methodNamed Bd.named
  have hlocks := Bd.notSynchronized
  have hx := Bd.exec
  have hb := Bd.bytes
  have hr := Bd.returns
  have C : CallFix p m c cX8_drawn 10 s _ wsX8_drawn RX8 := ⟨hx, hb, hml, hown, hts⟩
  obtain ⟨hK, hN⟩ := id G
  subst hsz
  have hD := hD0.self (sz := s.heap.size)
  generalize hAe : va_A (wM cs a M) s.heap.size = A at hD ⊢
  have hA : ∀ q : Nat, s.heap.size ≤ q → A q := fun q h => by rw [← hAe]; exact Or.inr h
  have hS : va_S A s.heap s.heap [] := va_S.rf
  have hR : RTi p l e ({ frames := 3, cells := 0, slots := 0, locals := 70 }) s m ([.ref (a 0), .int (x1), .int (x2), .int (x3), .int (x4)] : List Value).toArray below meth c cX8_drawn (MQ below (va_Qi (fun r (u : Ms) => r = res.1 ∧ u = res.2) (fun u t => va_P (dC, dI) vwCl ((fun u : Ms => (wM cs a u)) u) t.heap ∧ va_D A ((fun u : Ms => (wM cs a u)) u)) A) ([.ref (a 0), .int (x1), .int (x2), .int (x3), .int (x4)] : List Value).toArray s 0 0 A) (dC, dI) A (fun u : Ms => (wM cs a u)) res := fun H locs pc ls r u dd h hP hD hS => W.iret hx hb hr (fun t ht hW => ⟨⟨r, u, rfl, by cases h; exact ⟨rfl, rfl⟩, by rw [ht]; exact hP, hD⟩, hS.F ht⟩) hS.2.2 dd
  have hl := lv_entry ([.ref (a 0), .int (x1), .int (x2), .int (x3), .int (x4)]) (n := 10) (Nat.le_of_ble_eq_true rfl)
  rw [lg_entry_eq]
  generalize (lg_sl ([.ref (a 0), .int (x1), .int (x2), .int (x3), .int (x4)]) ++ List.replicate (10 - (lg_sl ([.ref (a 0), .int (x1), .int (x2), .int (x3), .int (x4)])).length) Slot.unset).toArray = ls at hl ⊢
  have hl : lv_has ls 10 [(0, .ref (a 0)), (1, .int (x1)), (2, .int (x2)), (3, .int (x3)), (4, .int (x4))] := hl
  unfold f_X8_drawn at hf
  refine lv_iload_n hx hb dX8_drawn_0 rfl (lv_at hl 1 rfl) ?_
  refine lv_iconst (v := 0) hx hb dX8_drawn_1 (by decide) ?_
  refine lv_ldc (v := 999999) hx hb hown (hts (.constant RX8 233 (999999)) (by decide +kernel)) dX8_drawn_2 ?_
  obtain ⟨r4, hr4, hf⟩ := bn_e hf
  have hPc := hP.sub (ws' := ([] : va_W)) [] rfl
  refine vp_callSi (W.runS (As := [.int (x1), .int ((0 : Int32)), .int ((999999 : Int32))]) (rest := []) C (c_X8_in l dC dI cs x1 (0 : Int32) (999999 : Int32) r4 hr4) (va_cwS 3 hts gX8_drawn_X8_in rfl rfl rfl (by decide +kernel) ⟨Nat.le_of_ble_eq_true rfl, Nat.le_of_ble_eq_true rfl⟩) ⟨(fun a U g mk q => ⟨q.1, q.2.1, GE.calling q.2.2⟩), (fun U hU hW => ⟨rfl, by rw [hU]; exact hPc, GE.warm hW G⟩)⟩ rfl rfl hl.1 rfl (lv_room (Nat.le_of_ble_eq_true rfl)) dX8_drawn_4 ⟨Nat.le_of_ble_eq_true rfl, Nat.le_of_ble_eq_true rfl⟩) (fun qr4 hqr4 => ?_)
  obtain ⟨hqr4, hnr4⟩ := hqr4
  obtain rfl := hqr4.symm
  refine lv_if_eq (tgt := 40) hx hb dX8_drawn_7 (by decide) (fun c1 => ?_) (fun c1 => ?_)
  · replace hf := it_t c1 hf
    exact b_X8_drawn_40 C G hA hR M _ _ _ (lv_sub hl [0] rfl) hP hD hS hf
  · replace hf := it_f c1 hf
    refine lv_iload_n hx hb dX8_drawn_10 rfl (lv_at hl 2 rfl) ?_
    refine lv_iconst (v := 0) hx hb dX8_drawn_11 (by decide) ?_
    refine lv_bipush (v := 100) hx hb dX8_drawn_12 (by decide) ?_
    obtain ⟨r14, hr14, hf⟩ := bn_e hf
    have hPc := hP.sub (ws' := ([] : va_W)) [] rfl
    refine vp_callSi (W.runS (As := [.int (x2), .int ((0 : Int32)), .int ((100 : Int32))]) (rest := []) C (c_X8_in l dC dI cs x2 (0 : Int32) (100 : Int32) r14 hr14) (va_cwS 3 hts gX8_drawn_X8_in rfl rfl rfl (by decide +kernel) ⟨Nat.le_of_ble_eq_true rfl, Nat.le_of_ble_eq_true rfl⟩) ⟨(fun a U g mk q => ⟨q.1, q.2.1, GE.calling q.2.2⟩), (fun U hU hW => ⟨rfl, by rw [hU]; exact hPc, GE.warm hW G⟩)⟩ rfl rfl hl.1 rfl (lv_room (Nat.le_of_ble_eq_true rfl)) dX8_drawn_14 ⟨Nat.le_of_ble_eq_true rfl, Nat.le_of_ble_eq_true rfl⟩) (fun qr14 hqr14 => ?_)
    obtain ⟨hqr14, hnr14⟩ := hqr14
    obtain rfl := hqr14.symm
    refine lv_if_eq (tgt := 40) hx hb dX8_drawn_17 (by decide) (fun c2 => ?_) (fun c2 => ?_)
    · replace hf := it_t c2 hf
      exact b_X8_drawn_40 C G hA hR M _ _ _ (lv_sub hl [0] rfl) hP hD hS hf
    · replace hf := it_f c2 hf
      refine lv_iload_n hx hb dX8_drawn_20 rfl (lv_at hl 3 rfl) ?_
      refine lv_iconst (v := 0) hx hb dX8_drawn_21 (by decide) ?_
      refine lv_bipush (v := 60) hx hb dX8_drawn_22 (by decide) ?_
      obtain ⟨r24, hr24, hf⟩ := bn_e hf
      have hPc := hP.sub (ws' := ([] : va_W)) [] rfl
      refine vp_callSi (W.runS (As := [.int (x3), .int ((0 : Int32)), .int ((60 : Int32))]) (rest := []) C (c_X8_in l dC dI cs x3 (0 : Int32) (60 : Int32) r24 hr24) (va_cwS 3 hts gX8_drawn_X8_in rfl rfl rfl (by decide +kernel) ⟨Nat.le_of_ble_eq_true rfl, Nat.le_of_ble_eq_true rfl⟩) ⟨(fun a U g mk q => ⟨q.1, q.2.1, GE.calling q.2.2⟩), (fun U hU hW => ⟨rfl, by rw [hU]; exact hPc, GE.warm hW G⟩)⟩ rfl rfl hl.1 rfl (lv_room (Nat.le_of_ble_eq_true rfl)) dX8_drawn_24 ⟨Nat.le_of_ble_eq_true rfl, Nat.le_of_ble_eq_true rfl⟩) (fun qr24 hqr24 => ?_)
      obtain ⟨hqr24, hnr24⟩ := hqr24
      obtain rfl := hqr24.symm
      refine lv_if_eq (tgt := 40) hx hb dX8_drawn_27 (by decide) (fun c3 => ?_) (fun c3 => ?_)
      · replace hf := it_t c3 hf
        exact b_X8_drawn_40 C G hA hR M _ _ _ (lv_sub hl [0] rfl) hP hD hS hf
      · replace hf := it_f c3 hf
        refine lv_iload hx hb dX8_drawn_30 (lv_at hl 4 rfl) ?_
        refine lv_iconst (v := 0) hx hb dX8_drawn_32 (by decide) ?_
        refine lv_iconst (v := 1) hx hb dX8_drawn_33 (by decide) ?_
        obtain ⟨r34, hr34, hf⟩ := bn_e hf
        have hPc := hP.sub (ws' := ([] : va_W)) [] rfl
        refine vp_callSi (W.runS (As := [.int (x4), .int ((0 : Int32)), .int ((1 : Int32))]) (rest := []) C (c_X8_in l dC dI cs x4 (0 : Int32) (1 : Int32) r34 hr34) (va_cwS 3 hts gX8_drawn_X8_in rfl rfl rfl (by decide +kernel) ⟨Nat.le_of_ble_eq_true rfl, Nat.le_of_ble_eq_true rfl⟩) ⟨(fun a U g mk q => ⟨q.1, q.2.1, GE.calling q.2.2⟩), (fun U hU hW => ⟨rfl, by rw [hU]; exact hPc, GE.warm hW G⟩)⟩ rfl rfl hl.1 rfl (lv_room (Nat.le_of_ble_eq_true rfl)) dX8_drawn_34 ⟨Nat.le_of_ble_eq_true rfl, Nat.le_of_ble_eq_true rfl⟩) (fun qr34 hqr34 => ?_)
        obtain ⟨hqr34, hnr34⟩ := hqr34
        obtain rfl := hqr34.symm
        refine lv_if_ne (tgt := 45) hx hb dX8_drawn_37 (by decide) (fun c4 => ?_) (fun c4 => ?_)
        · replace hf := it_f c4 hf
          refine lv_aload_n hx hb dX8_drawn_45 rfl (lv_at hl 0 rfl) ?_
          obtain ⟨r46, hr46, hf⟩ := bn_e hf
          have hPc := hP.sub (ws' := (wM cs a M)) [0, 1, 2, 3, 4, 5, 6, 7, 8, 9, 10, 11] rfl
          have hDc := hD.sub (ws' := (wM cs a M)) [0, 1, 2, 3, 4, 5, 6, 7, 8, 9, 10, 11] (by decide) rfl
          have hFc := va_free (wc := (wM cs a M)) hD hS hA [0, 1, 2, 3, 4, 5, 6, 7, 8, 9, 10, 11] rfl
          refine va_callv (va_runV (As := []) (rest := []) C (c_X8_tries l dC dI cs a s.heap.size M r46 hr46) (cwV 0 hts gX8_drawn_X8_tries rfl rfl rfl (by decide +kernel) ⟨Nat.le_of_ble_eq_true rfl, Nat.le_of_ble_eq_true rfl⟩) ⟨(fun a U g mk q => ⟨q.1, q.2.1, q.2.2.1, GE.calling q.2.2.2.1, q.2.2.2.2⟩), va_recv hK hPc (ci := 8) (q0 := 0) rfl rfl, (fun U hU hW => ⟨rfl, by rw [hU], by rw [hU]; exact hPc, GE.warm hW G, hDc.weaken (fun _ _ _ _ => trivial)⟩)⟩ rfl rfl hl.1 rfl (lv_room (Nat.le_of_ble_eq_true rfl)) dX8_drawn_46 ⟨Nat.le_of_ble_eq_true rfl, Nat.le_of_ble_eq_true rfl⟩) hS (fun q _ h => hFc q h) hFc (fun u t H1 locs ht hvm hw hB hz1 hk1 hS => ?_)
          obtain rfl := hw.symm
          obtain ⟨hP1, hD1⟩ := hB
          rw [ht] at hP1
          obtain ⟨hP, hD⟩ := va_join (wr := []) (w1 := (wM cs a r46)) hP hD [0, 1, 2, 3, 4, 5, 6, 7, 8, 9, 10, 11] [] rfl rfl (by decide) (by decide) hk1 hFc hP1 hD1
          generalize H1 = H at hP hS ⊢
          have hP := hP.sub (ws' := (wM cs a r46)) [0, 1, 2, 3, 4, 5, 6, 7, 8, 9, 10, 11] rfl
          have hD := hD.sub (ws' := (wM cs a r46)) [0, 1, 2, 3, 4, 5, 6, 7, 8, 9, 10, 11] (by decide) rfl
          refine lv_iload_n hx hb dX8_drawn_49 rfl (lv_at hl 1 rfl) ?_
          refine lv_i2l hx hb dX8_drawn_50 rfl ?_
          refine lv_topl (fun x5_51 ex5_51 => ?_)
          replace hf := lett_s ex5_51 hf
          refine lv_lstore (lv' := [(5, .long (x5_51)), (0, .ref (a 0)), (1, .int (x1)), (2, .int (x2)), (3, .int (x3)), (4, .int (x4))]) hx hb dX8_drawn_51 hl (by decide) rfl (fun ls hl => ?_)
          refine lv_iconst (v := 0) hx hb dX8_drawn_53 (by decide) ?_
          refine lv_topi (fun x7_54 ex7_54 => ?_)
          replace hf := lett_s ex7_54 hf
          refine lv_istore (lv' := [(7, .int (x7_54)), (5, .long (x5_51)), (0, .ref (a 0)), (1, .int (x1)), (2, .int (x2)), (3, .int (x3)), (4, .int (x4))]) hx hb dX8_drawn_54 hl (by decide) rfl (fun ls hl => ?_)
          exact w_X8_drawn_56 C G hA hR x2 x3 x4 (fun Mz H locs ls hl hP hD hS hf => b_X8_drawn_146 C G hA hR x4 Mz _ _ _ hl hP hD hS hf) FU x5_51 x7_54 r46 _ _ _ (lv_sub hl [2, 4, 5, 6, 1, 0] rfl) hP hD hS hf
        · replace hf := it_t c4 hf
          exact b_X8_drawn_40 C G hA hR M _ _ _ (lv_sub hl [0] rfl) hP hD hS hf

theorem in_X8_part_X8 : ∀ w ∈ wsX80, w ∈ wsX8_part := by decide +kernel
def f_X8_part (x1 : Int32) (M : Ms) : Option (Int64 × Ms) :=
  if x1 = 0 then (
    some ((M.2.1 0), M)
  ) else (
    if x1 = (1 : Int32) then (
      some ((M.2.1 1), M)
    ) else (
      bn (f_X8_bad M) fun r24 =>
      some ((r24.1).toInt64, r24.2)
    )
  )
set_option maxHeartbeats 4000000 in
set_option maxRecDepth 100000 in
theorem c_X8_part (l : Launch) (dC : Nat → ClassId) (dI : Nat → Nat → Nat) (cs : Nat → ClassId) (a : Nat → Nat) (sz : Nat) (M : Ms) (x1 : Int32) (res : Int64 × Ms) (hf : f_X8_part x1 M = some res) : Met l yX8_part wsX8_part ({ frames := 1, cells := 0, slots := 0, locals := 20 }) (va_Pc [.ref (a 0), .int (x1)] (fun U => U.heap.size = sz ∧ va_P (dC, dI) vwCl (wM cs a M) U.heap ∧ GE dC dI cs U ∧ va_D (fun _ => True) (wM cs a M))) (va_Ql (fun r (u : Ms) => r = res.1 ∧ u = res.2) (fun u t => va_P (dC, dI) vwCl ((fun u : Ms => (wM cs a u)) u) t.heap ∧ va_D (va_A (wM cs a M) sz) ((fun u : Ms => (wM cs a u)) u)) (va_A (wM cs a M) sz)) 0 0 (va_A (wM cs a M) sz) := by
  refine Met.ofW (cc := cX8_part) (maxL := 2) (ret := (some .long)) (by decide) rfl ?_
  intro p e s m args below meth c s₁ Bd hml hv
  obtain ⟨rfl, hsz, hP, G, hD0⟩ := hv
  have hts := atoms_spec (ws := wsX8_part) Bd.pre
  have hown : s.vm.findClass RX8 = some m.cls := findClass_of_methodNamed Bd.named
  have hlocks := Bd.notSynchronized
  have hx := Bd.exec
  have hb := Bd.bytes
  have hr := Bd.returns
  have C : CallFix p m c cX8_part 2 s _ wsX8_part RX8 := ⟨hx, hb, hml, hown, hts⟩
  obtain ⟨hK, hN⟩ := id G
  subst hsz
  have hD := hD0.self (sz := s.heap.size)
  generalize hAe : va_A (wM cs a M) s.heap.size = A at hD ⊢
  have hA : ∀ q : Nat, s.heap.size ≤ q → A q := fun q h => by rw [← hAe]; exact Or.inr h
  have hS : va_S A s.heap s.heap [] := va_S.rf
  have hR : RTl p l e ({ frames := 1, cells := 0, slots := 0, locals := 20 }) s m ([.ref (a 0), .int (x1)] : List Value).toArray below meth c cX8_part (MQ below (va_Ql (fun r (u : Ms) => r = res.1 ∧ u = res.2) (fun u t => va_P (dC, dI) vwCl ((fun u : Ms => (wM cs a u)) u) t.heap ∧ va_D A ((fun u : Ms => (wM cs a u)) u)) A) ([.ref (a 0), .int (x1)] : List Value).toArray s 0 0 A) (dC, dI) A (fun u : Ms => (wM cs a u)) res := fun H locs pc ls r u dd h hP hD hS => W.lret hx hb hr (fun t ht hW => ⟨⟨r, u, rfl, by cases h; exact ⟨rfl, rfl⟩, by rw [ht]; exact hP, hD⟩, hS.F ht⟩) hS.2.2 dd
  have hl := lv_entry ([.ref (a 0), .int (x1)]) (n := 2) (Nat.le_of_ble_eq_true rfl)
  rw [lg_entry_eq]
  generalize (lg_sl ([.ref (a 0), .int (x1)]) ++ List.replicate (2 - (lg_sl ([.ref (a 0), .int (x1)])).length) Slot.unset).toArray = ls at hl ⊢
  have hl : lv_has ls 2 [(0, .ref (a 0)), (1, .int (x1))] := hl
  unfold f_X8_part at hf
  refine lv_iload_n hx hb dX8_part_0 rfl (lv_at hl 1 rfl) ?_
  refine lv_if_ne (tgt := 11) hx hb dX8_part_1 (by decide) (fun c1 => ?_) (fun c1 => ?_)
  · replace hf := it_f c1 hf
    refine lv_iload_n hx hb dX8_part_11 rfl (lv_at hl 1 rfl) ?_
    refine lv_iconst (v := 1) hx hb dX8_part_12 (by decide) ?_
    refine lv_icmp_ne (tgt := 23) hx hb dX8_part_13 (by decide) (fun c2 => ?_) (fun c2 => ?_)
    · replace hf := it_f c2 hf
      refine lv_aload_n hx hb dX8_part_23 rfl (lv_at hl 0 rfl) ?_
      obtain ⟨r24, hr24, hf⟩ := bn_e hf
      have hPc := hP.sub (ws' := (wM cs a M)) [0, 1, 2, 3, 4, 5, 6, 7, 8, 9, 10, 11] rfl
      have hDc := hD.sub (ws' := (wM cs a M)) [0, 1, 2, 3, 4, 5, 6, 7, 8, 9, 10, 11] (by decide) rfl
      have hFc := va_free (wc := (wM cs a M)) hD hS hA [0, 1, 2, 3, 4, 5, 6, 7, 8, 9, 10, 11] rfl
      refine va_calli (va_runV (As := []) (rest := []) C (c_X8_bad l dC dI cs a s.heap.size M r24 hr24) (cwV 0 hts gX8_part_X8_bad rfl rfl rfl (by decide +kernel) ⟨Nat.le_of_ble_eq_true rfl, Nat.le_of_ble_eq_true rfl⟩) ⟨(fun a U g mk q => ⟨q.1, q.2.1, q.2.2.1, GE.calling q.2.2.2.1, q.2.2.2.2⟩), va_recv hK hPc (ci := 8) (q0 := 0) rfl rfl, (fun U hU hW => ⟨rfl, by rw [hU], by rw [hU]; exact hPc, GE.warm hW G, hDc.weaken (fun _ _ _ _ => trivial)⟩)⟩ rfl rfl hl.1 rfl (lv_room (Nat.le_of_ble_eq_true rfl)) dX8_part_24 ⟨Nat.le_of_ble_eq_true rfl, Nat.le_of_ble_eq_true rfl⟩) hS (fun q _ h => hFc q h) hFc (fun q u t H1 locs ht hvm hw hB hz1 hk1 hS => ?_)
      obtain ⟨rfl, rfl⟩ := hw
      obtain ⟨hP1, hD1⟩ := hB
      rw [ht] at hP1
      obtain ⟨hP, hD⟩ := va_join (wr := []) (w1 := (wM cs a r24.2)) hP hD [0, 1, 2, 3, 4, 5, 6, 7, 8, 9, 10, 11] [] rfl rfl (by decide) (by decide) hk1 hFc hP1 hD1
      generalize H1 = H at hP hS ⊢
      have hP := hP.sub (ws' := (wM cs a r24.2)) [0, 1, 2, 3, 4, 5, 6, 7, 8, 9, 10, 11] rfl
      have hD := hD.sub (ws' := (wM cs a r24.2)) [0, 1, 2, 3, 4, 5, 6, 7, 8, 9, 10, 11] (by decide) rfl
      refine lv_i2l hx hb dX8_part_27 rfl ?_
      exact hR _ _ _ _ _ _ dX8_part_28 hf hP hD hS
    · replace hf := it_t c2 hf
      refine lv_aload_n hx hb dX8_part_16 rfl (lv_at hl 0 rfl) ?_
      refine va_get (D := (dC, dI)) (ci := 8) (v := .long ((M.2.1 1))) (C := RX8) (T := TX8) (N := 20) hx hb hts in_X8_part_X8 hown hK hP 0 rfl rfl 9 (by decide) (hts (.fieldLink RX8 32 "BackLoansModel" "below" "J") (by decide +kernel)) (fun _ h9 => h9) rfl dX8_part_17 ?_
      refine lv_goto (tgt := 28) hx hb dX8_part_20 (by decide) ?_
      exact hR _ _ _ _ _ _ dX8_part_28 hf hP hD hS
  · replace hf := it_t c1 hf
    refine lv_aload_n hx hb dX8_part_4 rfl (lv_at hl 0 rfl) ?_
    refine va_get (D := (dC, dI)) (ci := 8) (v := .long ((M.2.1 0))) (C := RX8) (T := TX8) (N := 20) hx hb hts in_X8_part_X8 hown hK hP 0 rfl rfl 8 (by decide) (hts (.fieldLink RX8 221 "BackLoansModel" "above" "J") (by decide +kernel)) (fun _ h9 => h9) rfl dX8_part_5 ?_
    refine lv_goto (tgt := 28) hx hb dX8_part_8 (by decide) ?_
    exact hR _ _ _ _ _ _ dX8_part_28 hf hP hD hS

theorem in_X8_image_X8 : ∀ w ∈ wsX80, w ∈ wsX8_image := by decide +kernel
def f_X8_image (x1 : Int32) (M : Ms) : Option (Int32 × Ms) :=
  bn (f_X8_in x1 (0 : Int32) (1 : Int32)) fun r3 =>
  if r3 = 0 then (
    bn (f_X8_bad M) fun r10 =>
    some (r10.1, r10.2)
  ) else (
    bn (f_X8_copy 362 724 (0 : Int32) ((362 : Int32) * x1) (M.2.2 0) (M.2.2 3)) fun r28 =>
    lett ((M.1, M.2.1, va_up M.2.2 3 (r28))) fun M_28 =>
    gi (x1) 2 <|
    lett ((M_28.1, M_28.2.1, va_up M_28.2.2 4 (upd (M_28.2.2 4) (x1).toNatClampNeg (vp_nar .boolean ((1 : Int32)))))) fun M_37 =>
    some ((1 : Int32), M_37)
  )
set_option maxHeartbeats 4000000 in
set_option maxRecDepth 100000 in
theorem c_X8_image (l : Launch) (dC : Nat → ClassId) (dI : Nat → Nat → Nat) (cs : Nat → ClassId) (a : Nat → Nat) (sz : Nat) (M : Ms) (x1 : Int32) (res : Int32 × Ms) (hf : f_X8_image x1 M = some res) : Met l yX8_image wsX8_image ({ frames := 1, cells := 0, slots := 0, locals := 24 }) (va_Pc [.ref (a 0), .int (x1)] (fun U => U.heap.size = sz ∧ va_P (dC, dI) vwCl (wM cs a M) U.heap ∧ GE dC dI cs U ∧ va_D (fun _ => True) (wM cs a M))) (va_Qi (fun r (u : Ms) => r = res.1 ∧ u = res.2) (fun u t => va_P (dC, dI) vwCl ((fun u : Ms => (wM cs a u)) u) t.heap ∧ va_D (va_A (wM cs a M) sz) ((fun u : Ms => (wM cs a u)) u)) (va_A (wM cs a M) sz)) 0 0 (va_A (wM cs a M) sz) := by
  refine Met.ofW (cc := cX8_image) (maxL := 2) (ret := (some .int)) (by decide) rfl ?_
  intro p e s m args below meth c s₁ Bd hml hv
  obtain ⟨rfl, hsz, hP, G, hD0⟩ := hv
  have hts := atoms_spec (ws := wsX8_image) Bd.pre
  have hown : s.vm.findClass RX8 = some m.cls := findClass_of_methodNamed Bd.named
  have hlocks := Bd.notSynchronized
  have hx := Bd.exec
  have hb := Bd.bytes
  have hr := Bd.returns
  have C : CallFix p m c cX8_image 2 s _ wsX8_image RX8 := ⟨hx, hb, hml, hown, hts⟩
  obtain ⟨hK, hN⟩ := id G
  subst hsz
  have hD := hD0.self (sz := s.heap.size)
  generalize hAe : va_A (wM cs a M) s.heap.size = A at hD ⊢
  have hA : ∀ q : Nat, s.heap.size ≤ q → A q := fun q h => by rw [← hAe]; exact Or.inr h
  have hS : va_S A s.heap s.heap [] := va_S.rf
  have hR : RTi p l e ({ frames := 1, cells := 0, slots := 0, locals := 24 }) s m ([.ref (a 0), .int (x1)] : List Value).toArray below meth c cX8_image (MQ below (va_Qi (fun r (u : Ms) => r = res.1 ∧ u = res.2) (fun u t => va_P (dC, dI) vwCl ((fun u : Ms => (wM cs a u)) u) t.heap ∧ va_D A ((fun u : Ms => (wM cs a u)) u)) A) ([.ref (a 0), .int (x1)] : List Value).toArray s 0 0 A) (dC, dI) A (fun u : Ms => (wM cs a u)) res := fun H locs pc ls r u dd h hP hD hS => W.iret hx hb hr (fun t ht hW => ⟨⟨r, u, rfl, by cases h; exact ⟨rfl, rfl⟩, by rw [ht]; exact hP, hD⟩, hS.F ht⟩) hS.2.2 dd
  have hl := lv_entry ([.ref (a 0), .int (x1)]) (n := 2) (Nat.le_of_ble_eq_true rfl)
  rw [lg_entry_eq]
  generalize (lg_sl ([.ref (a 0), .int (x1)]) ++ List.replicate (2 - (lg_sl ([.ref (a 0), .int (x1)])).length) Slot.unset).toArray = ls at hl ⊢
  have hl : lv_has ls 2 [(0, .ref (a 0)), (1, .int (x1))] := hl
  unfold f_X8_image at hf
  refine lv_iload_n hx hb dX8_image_0 rfl (lv_at hl 1 rfl) ?_
  refine lv_iconst (v := 0) hx hb dX8_image_1 (by decide) ?_
  refine lv_iconst (v := 1) hx hb dX8_image_2 (by decide) ?_
  obtain ⟨r3, hr3, hf⟩ := bn_e hf
  have hPc := hP.sub (ws' := ([] : va_W)) [] rfl
  refine vp_callSi (W.runS (As := [.int (x1), .int ((0 : Int32)), .int ((1 : Int32))]) (rest := []) C (c_X8_in l dC dI cs x1 (0 : Int32) (1 : Int32) r3 hr3) (va_cwS 3 hts gX8_image_X8_in rfl rfl rfl (by decide +kernel) ⟨Nat.le_of_ble_eq_true rfl, Nat.le_of_ble_eq_true rfl⟩) ⟨(fun a U g mk q => ⟨q.1, q.2.1, GE.calling q.2.2⟩), (fun U hU hW => ⟨rfl, by rw [hU]; exact hPc, GE.warm hW G⟩)⟩ rfl rfl hl.1 rfl (lv_room (Nat.le_of_ble_eq_true rfl)) dX8_image_3 ⟨Nat.le_of_ble_eq_true rfl, Nat.le_of_ble_eq_true rfl⟩) (fun qr3 hqr3 => ?_)
  obtain ⟨hqr3, hnr3⟩ := hqr3
  obtain rfl := hqr3.symm
  refine lv_if_ne (tgt := 14) hx hb dX8_image_6 (by decide) (fun c1 => ?_) (fun c1 => ?_)
  · replace hf := it_f c1 hf
    refine lv_aload_n hx hb dX8_image_14 rfl (lv_at hl 0 rfl) ?_
    refine va_get (D := (dC, dI)) (ci := 8) (v := .ref (a 1)) (C := RX8) (T := TX8) (N := 20) hx hb hts in_X8_image_X8 hown hK hP 0 rfl rfl 0 (by decide) (hts (.fieldLink RX8 7 "BackLoansModel" "now" "[I") (by decide +kernel)) (fun _ h9 => h9) rfl dX8_image_15 ?_
    refine lv_iconst (v := 0) hx hb dX8_image_18 (by decide) ?_
    refine lv_aload_n hx hb dX8_image_19 rfl (lv_at hl 0 rfl) ?_
    refine va_get (D := (dC, dI)) (ci := 8) (v := .ref (a 4)) (C := RX8) (T := TX8) (N := 20) hx hb hts in_X8_image_X8 hown hK hP 0 rfl rfl 3 (by decide) (hts (.fieldLink RX8 19 "BackLoansModel" "images" "[I") (by decide +kernel)) (fun _ h9 => h9) rfl dX8_image_20 ?_
    refine lv_sipush (v := 362) hx hb dX8_image_23 (by decide) ?_
    refine lv_iload_n hx hb dX8_image_26 rfl (lv_at hl 1 rfl) ?_
    refine lv_imul hx hb dX8_image_27 ?_
    obtain ⟨r28, hr28, hf⟩ := bn_e hf
    have hPc := hP.sub (ws' := (wA cs (a 1) 362 (M.2.2 0) ++ wA cs (a 4) 724 (M.2.2 3))) [1, 4] rfl
    have hDc := hD.sub (ws' := (wA cs (a 1) 362 (M.2.2 0) ++ wA cs (a 4) 724 (M.2.2 3))) [1, 4] (by decide) rfl
    have hFc := va_free (wc := (wA cs (a 1) 362 (M.2.2 0) ++ wA cs (a 4) 724 (M.2.2 3))) hD hS hA [1, 4] rfl
    refine va_callv (va_runS (As := [.ref (a 1), .int ((0 : Int32)), .ref (a 4), .int (((362 : Int32) * x1))]) (rest := []) C (c_X8_copy l dC dI cs (a 1) (a 4) 362 724 s.heap.size (M.2.2 0) (M.2.2 3) (0 : Int32) ((362 : Int32) * x1) r28 hr28) (va_cwS 4 hts gX8_image_X8_copy rfl rfl rfl (by decide +kernel) ⟨Nat.le_of_ble_eq_true rfl, Nat.le_of_ble_eq_true rfl⟩) ⟨(fun a U g mk q => ⟨q.1, q.2.1, q.2.2.1, GE.calling q.2.2.2.1, q.2.2.2.2⟩), (fun U hU hW => ⟨rfl, by rw [hU], by rw [hU]; exact hPc, GE.warm hW G, hDc.weaken (fun _ _ _ _ => trivial)⟩)⟩ rfl rfl hl.1 rfl (lv_room (Nat.le_of_ble_eq_true rfl)) dX8_image_28 ⟨Nat.le_of_ble_eq_true rfl, Nat.le_of_ble_eq_true rfl⟩) hS (fun q _ h => hFc q h) hFc (fun u t H1 locs ht hvm hw hB hz1 hk1 hS => ?_)
    obtain rfl := hw.symm
    obtain ⟨hP1, hD1⟩ := hB
    rw [ht] at hP1
    obtain ⟨hP, hD⟩ := va_join (wr := [0, 2, 3, 5, 6, 7, 8, 9, 10, 11].filterMap (fun i => ((wM cs a M))[i]?)) (w1 := (wA cs (a 1) 362 (M.2.2 0) ++ wA cs (a 4) 724 r28)) hP hD [1, 4] [0, 2, 3, 5, 6, 7, 8, 9, 10, 11] rfl rfl (by decide) (by decide) hk1 hFc hP1 hD1
    generalize H1 = H at hP hS ⊢
    have hP := hP.sub (ws' := (wM cs a (M.1, M.2.1, va_up M.2.2 3 (r28)))) [0, 10, 1, 2, 11, 3, 4, 5, 6, 7, 8, 9] rfl
    have hD := hD.sub (ws' := (wM cs a (M.1, M.2.1, va_up M.2.2 3 (r28)))) [0, 10, 1, 2, 11, 3, 4, 5, 6, 7, 8, 9] (by decide) rfl
    obtain ⟨M_28, hP, hD, hf⟩ := st_nm (ws := fun M_28 : Ms => (wM cs a M_28)) ((M.1, M.2.1, va_up M.2.2 3 (r28))) hP hD hf
    refine lv_aload_n hx hb dX8_image_31 rfl (lv_at hl 0 rfl) ?_
    refine va_get (D := (dC, dI)) (ci := 8) (v := .ref (a 5)) (C := RX8) (T := TX8) (N := 20) hx hb hts in_X8_image_X8 hown hK hP 0 rfl rfl 4 (by decide) (hts (.fieldLink RX8 22 "BackLoansModel" "kept" "[Z") (by decide +kernel)) (fun _ h9 => h9) rfl dX8_image_32 ?_
    refine lv_iload_n hx hb dX8_image_35 rfl (lv_at hl 1 rfl) ?_
    refine lv_iconst (v := 1) hx hb dX8_image_36 (by decide) ?_
    obtain ⟨hi2, hf⟩ := gi_e hf
    refine va_zast hx hb hK hP hD hS 5 3 rfl rfl hi2 dX8_image_37 (fun H locs hP hD hS => ?_)
    obtain ⟨M_37, hP, hD, hf⟩ := st_nm (ws := fun M_37 : Ms => (wM cs a M_37)) ((M_28.1, M_28.2.1, va_up M_28.2.2 4 (upd (M_28.2.2 4) (x1).toNatClampNeg (vp_nar .boolean ((1 : Int32)))))) hP hD hf
    refine lv_iconst (v := 1) hx hb dX8_image_38 (by decide) ?_
    exact hR _ _ _ _ _ _ dX8_image_39 hf hP hD hS
  · replace hf := it_t c1 hf
    refine lv_aload_n hx hb dX8_image_9 rfl (lv_at hl 0 rfl) ?_
    obtain ⟨r10, hr10, hf⟩ := bn_e hf
    have hPc := hP.sub (ws' := (wM cs a M)) [0, 1, 2, 3, 4, 5, 6, 7, 8, 9, 10, 11] rfl
    have hDc := hD.sub (ws' := (wM cs a M)) [0, 1, 2, 3, 4, 5, 6, 7, 8, 9, 10, 11] (by decide) rfl
    have hFc := va_free (wc := (wM cs a M)) hD hS hA [0, 1, 2, 3, 4, 5, 6, 7, 8, 9, 10, 11] rfl
    refine va_calli (va_runV (As := []) (rest := []) C (c_X8_bad l dC dI cs a s.heap.size M r10 hr10) (cwV 0 hts gX8_image_X8_bad rfl rfl rfl (by decide +kernel) ⟨Nat.le_of_ble_eq_true rfl, Nat.le_of_ble_eq_true rfl⟩) ⟨(fun a U g mk q => ⟨q.1, q.2.1, q.2.2.1, GE.calling q.2.2.2.1, q.2.2.2.2⟩), va_recv hK hPc (ci := 8) (q0 := 0) rfl rfl, (fun U hU hW => ⟨rfl, by rw [hU], by rw [hU]; exact hPc, GE.warm hW G, hDc.weaken (fun _ _ _ _ => trivial)⟩)⟩ rfl rfl hl.1 rfl (lv_room (Nat.le_of_ble_eq_true rfl)) dX8_image_10 ⟨Nat.le_of_ble_eq_true rfl, Nat.le_of_ble_eq_true rfl⟩) hS (fun q _ h => hFc q h) hFc (fun q u t H1 locs ht hvm hw hB hz1 hk1 hS => ?_)
    obtain ⟨rfl, rfl⟩ := hw
    obtain ⟨hP1, hD1⟩ := hB
    rw [ht] at hP1
    obtain ⟨hP, hD⟩ := va_join (wr := []) (w1 := (wM cs a r10.2)) hP hD [0, 1, 2, 3, 4, 5, 6, 7, 8, 9, 10, 11] [] rfl rfl (by decide) (by decide) hk1 hFc hP1 hD1
    generalize H1 = H at hP hS ⊢
    have hP := hP.sub (ws' := (wM cs a r10.2)) [0, 1, 2, 3, 4, 5, 6, 7, 8, 9, 10, 11] rfl
    have hD := hD.sub (ws' := (wM cs a r10.2)) [0, 1, 2, 3, 4, 5, 6, 7, 8, 9, 10, 11] (by decide) rfl
    exact hR _ _ _ _ _ _ dX8_image_13 hf hP hD hS

theorem in_X8_from_X8 : ∀ w ∈ wsX80, w ∈ wsX8_from := by decide +kernel
def f_X8_from (x1 : Int32) (M : Ms) : Option (Int32 × Ms) :=
  bn (f_X8_in x1 (0 : Int32) (1 : Int32)) fun r3 =>
  if r3 = 0 then (
    bn (f_X8_bad M) fun r10 =>
    some (r10.1, r10.2)
  ) else (
    gi (x1) 2 <|
    if ((M.2.2 4) (x1).toNatClampNeg) = 0 then (
      bn (f_X8_no M) fun r24 =>
      some (r24.1, r24.2)
    ) else (
      bn (f_X8_copy 724 362 ((362 : Int32) * x1) (0 : Int32) (M.2.2 3) (M.2.2 0)) fun r42 =>
      lett ((M.1, M.2.1, va_up M.2.2 0 (r42))) fun M_42 =>
      some ((1 : Int32), M_42)
    )
  )
set_option maxHeartbeats 4000000 in
set_option maxRecDepth 100000 in
theorem c_X8_from (l : Launch) (dC : Nat → ClassId) (dI : Nat → Nat → Nat) (cs : Nat → ClassId) (a : Nat → Nat) (sz : Nat) (M : Ms) (x1 : Int32) (res : Int32 × Ms) (hf : f_X8_from x1 M = some res) : Met l yX8_from wsX8_from ({ frames := 1, cells := 0, slots := 0, locals := 24 }) (va_Pc [.ref (a 0), .int (x1)] (fun U => U.heap.size = sz ∧ va_P (dC, dI) vwCl (wM cs a M) U.heap ∧ GE dC dI cs U ∧ va_D (fun _ => True) (wM cs a M))) (va_Qi (fun r (u : Ms) => r = res.1 ∧ u = res.2) (fun u t => va_P (dC, dI) vwCl ((fun u : Ms => (wM cs a u)) u) t.heap ∧ va_D (va_A (wM cs a M) sz) ((fun u : Ms => (wM cs a u)) u)) (va_A (wM cs a M) sz)) 0 0 (va_A (wM cs a M) sz) := by
  refine Met.ofW (cc := cX8_from) (maxL := 2) (ret := (some .int)) (by decide) rfl ?_
  intro p e s m args below meth c s₁ Bd hml hv
  obtain ⟨rfl, hsz, hP, G, hD0⟩ := hv
  have hts := atoms_spec (ws := wsX8_from) Bd.pre
  have hown : s.vm.findClass RX8 = some m.cls := findClass_of_methodNamed Bd.named
  have hlocks := Bd.notSynchronized
  have hx := Bd.exec
  have hb := Bd.bytes
  have hr := Bd.returns
  have C : CallFix p m c cX8_from 2 s _ wsX8_from RX8 := ⟨hx, hb, hml, hown, hts⟩
  obtain ⟨hK, hN⟩ := id G
  subst hsz
  have hD := hD0.self (sz := s.heap.size)
  generalize hAe : va_A (wM cs a M) s.heap.size = A at hD ⊢
  have hA : ∀ q : Nat, s.heap.size ≤ q → A q := fun q h => by rw [← hAe]; exact Or.inr h
  have hS : va_S A s.heap s.heap [] := va_S.rf
  have hR : RTi p l e ({ frames := 1, cells := 0, slots := 0, locals := 24 }) s m ([.ref (a 0), .int (x1)] : List Value).toArray below meth c cX8_from (MQ below (va_Qi (fun r (u : Ms) => r = res.1 ∧ u = res.2) (fun u t => va_P (dC, dI) vwCl ((fun u : Ms => (wM cs a u)) u) t.heap ∧ va_D A ((fun u : Ms => (wM cs a u)) u)) A) ([.ref (a 0), .int (x1)] : List Value).toArray s 0 0 A) (dC, dI) A (fun u : Ms => (wM cs a u)) res := fun H locs pc ls r u dd h hP hD hS => W.iret hx hb hr (fun t ht hW => ⟨⟨r, u, rfl, by cases h; exact ⟨rfl, rfl⟩, by rw [ht]; exact hP, hD⟩, hS.F ht⟩) hS.2.2 dd
  have hl := lv_entry ([.ref (a 0), .int (x1)]) (n := 2) (Nat.le_of_ble_eq_true rfl)
  rw [lg_entry_eq]
  generalize (lg_sl ([.ref (a 0), .int (x1)]) ++ List.replicate (2 - (lg_sl ([.ref (a 0), .int (x1)])).length) Slot.unset).toArray = ls at hl ⊢
  have hl : lv_has ls 2 [(0, .ref (a 0)), (1, .int (x1))] := hl
  unfold f_X8_from at hf
  refine lv_iload_n hx hb dX8_from_0 rfl (lv_at hl 1 rfl) ?_
  refine lv_iconst (v := 0) hx hb dX8_from_1 (by decide) ?_
  refine lv_iconst (v := 1) hx hb dX8_from_2 (by decide) ?_
  obtain ⟨r3, hr3, hf⟩ := bn_e hf
  have hPc := hP.sub (ws' := ([] : va_W)) [] rfl
  refine vp_callSi (W.runS (As := [.int (x1), .int ((0 : Int32)), .int ((1 : Int32))]) (rest := []) C (c_X8_in l dC dI cs x1 (0 : Int32) (1 : Int32) r3 hr3) (va_cwS 3 hts gX8_from_X8_in rfl rfl rfl (by decide +kernel) ⟨Nat.le_of_ble_eq_true rfl, Nat.le_of_ble_eq_true rfl⟩) ⟨(fun a U g mk q => ⟨q.1, q.2.1, GE.calling q.2.2⟩), (fun U hU hW => ⟨rfl, by rw [hU]; exact hPc, GE.warm hW G⟩)⟩ rfl rfl hl.1 rfl (lv_room (Nat.le_of_ble_eq_true rfl)) dX8_from_3 ⟨Nat.le_of_ble_eq_true rfl, Nat.le_of_ble_eq_true rfl⟩) (fun qr3 hqr3 => ?_)
  obtain ⟨hqr3, hnr3⟩ := hqr3
  obtain rfl := hqr3.symm
  refine lv_if_ne (tgt := 14) hx hb dX8_from_6 (by decide) (fun c1 => ?_) (fun c1 => ?_)
  · replace hf := it_f c1 hf
    refine lv_aload_n hx hb dX8_from_14 rfl (lv_at hl 0 rfl) ?_
    refine va_get (D := (dC, dI)) (ci := 8) (v := .ref (a 5)) (C := RX8) (T := TX8) (N := 20) hx hb hts in_X8_from_X8 hown hK hP 0 rfl rfl 4 (by decide) (hts (.fieldLink RX8 22 "BackLoansModel" "kept" "[Z") (by decide +kernel)) (fun _ h9 => h9) rfl dX8_from_15 ?_
    refine lv_iload_n hx hb dX8_from_18 rfl (lv_at hl 1 rfl) ?_
    obtain ⟨hi2, hf⟩ := gi_e hf
    refine va_zald hx hb hK hP 5 3 rfl rfl hi2 dX8_from_19 ?_
    refine lv_if_ne (tgt := 28) hx hb dX8_from_20 (by decide) (fun c3 => ?_) (fun c3 => ?_)
    · replace hf := it_f c3 hf
      refine lv_aload_n hx hb dX8_from_28 rfl (lv_at hl 0 rfl) ?_
      refine va_get (D := (dC, dI)) (ci := 8) (v := .ref (a 4)) (C := RX8) (T := TX8) (N := 20) hx hb hts in_X8_from_X8 hown hK hP 0 rfl rfl 3 (by decide) (hts (.fieldLink RX8 19 "BackLoansModel" "images" "[I") (by decide +kernel)) (fun _ h9 => h9) rfl dX8_from_29 ?_
      refine lv_sipush (v := 362) hx hb dX8_from_32 (by decide) ?_
      refine lv_iload_n hx hb dX8_from_35 rfl (lv_at hl 1 rfl) ?_
      refine lv_imul hx hb dX8_from_36 ?_
      refine lv_aload_n hx hb dX8_from_37 rfl (lv_at hl 0 rfl) ?_
      refine va_get (D := (dC, dI)) (ci := 8) (v := .ref (a 1)) (C := RX8) (T := TX8) (N := 20) hx hb hts in_X8_from_X8 hown hK hP 0 rfl rfl 0 (by decide) (hts (.fieldLink RX8 7 "BackLoansModel" "now" "[I") (by decide +kernel)) (fun _ h9 => h9) rfl dX8_from_38 ?_
      refine lv_iconst (v := 0) hx hb dX8_from_41 (by decide) ?_
      obtain ⟨r42, hr42, hf⟩ := bn_e hf
      have hPc := hP.sub (ws' := (wA cs (a 4) 724 (M.2.2 3) ++ wA cs (a 1) 362 (M.2.2 0))) [4, 1] rfl
      have hDc := hD.sub (ws' := (wA cs (a 4) 724 (M.2.2 3) ++ wA cs (a 1) 362 (M.2.2 0))) [4, 1] (by decide) rfl
      have hFc := va_free (wc := (wA cs (a 4) 724 (M.2.2 3) ++ wA cs (a 1) 362 (M.2.2 0))) hD hS hA [4, 1] rfl
      refine va_callv (va_runS (As := [.ref (a 4), .int (((362 : Int32) * x1)), .ref (a 1), .int ((0 : Int32))]) (rest := []) C (c_X8_copy l dC dI cs (a 4) (a 1) 724 362 s.heap.size (M.2.2 3) (M.2.2 0) ((362 : Int32) * x1) (0 : Int32) r42 hr42) (va_cwS 4 hts gX8_from_X8_copy rfl rfl rfl (by decide +kernel) ⟨Nat.le_of_ble_eq_true rfl, Nat.le_of_ble_eq_true rfl⟩) ⟨(fun a U g mk q => ⟨q.1, q.2.1, q.2.2.1, GE.calling q.2.2.2.1, q.2.2.2.2⟩), (fun U hU hW => ⟨rfl, by rw [hU], by rw [hU]; exact hPc, GE.warm hW G, hDc.weaken (fun _ _ _ _ => trivial)⟩)⟩ rfl rfl hl.1 rfl (lv_room (Nat.le_of_ble_eq_true rfl)) dX8_from_42 ⟨Nat.le_of_ble_eq_true rfl, Nat.le_of_ble_eq_true rfl⟩) hS (fun q _ h => hFc q h) hFc (fun u t H1 locs ht hvm hw hB hz1 hk1 hS => ?_)
      obtain rfl := hw.symm
      obtain ⟨hP1, hD1⟩ := hB
      rw [ht] at hP1
      obtain ⟨hP, hD⟩ := va_join (wr := [0, 2, 3, 5, 6, 7, 8, 9, 10, 11].filterMap (fun i => ((wM cs a M))[i]?)) (w1 := (wA cs (a 4) 724 (M.2.2 3) ++ wA cs (a 1) 362 r42)) hP hD [4, 1] [0, 2, 3, 5, 6, 7, 8, 9, 10, 11] rfl rfl (by decide) (by decide) hk1 hFc hP1 hD1
      generalize H1 = H at hP hS ⊢
      have hP := hP.sub (ws' := (wM cs a (M.1, M.2.1, va_up M.2.2 0 (r42)))) [0, 11, 1, 2, 10, 3, 4, 5, 6, 7, 8, 9] rfl
      have hD := hD.sub (ws' := (wM cs a (M.1, M.2.1, va_up M.2.2 0 (r42)))) [0, 11, 1, 2, 10, 3, 4, 5, 6, 7, 8, 9] (by decide) rfl
      obtain ⟨M_42, hP, hD, hf⟩ := st_nm (ws := fun M_42 : Ms => (wM cs a M_42)) ((M.1, M.2.1, va_up M.2.2 0 (r42))) hP hD hf
      refine lv_iconst (v := 1) hx hb dX8_from_45 (by decide) ?_
      exact hR _ _ _ _ _ _ dX8_from_46 hf hP hD hS
    · replace hf := it_t c3 hf
      refine lv_aload_n hx hb dX8_from_23 rfl (lv_at hl 0 rfl) ?_
      obtain ⟨r24, hr24, hf⟩ := bn_e hf
      have hPc := hP.sub (ws' := (wM cs a M)) [0, 1, 2, 3, 4, 5, 6, 7, 8, 9, 10, 11] rfl
      have hDc := hD.sub (ws' := (wM cs a M)) [0, 1, 2, 3, 4, 5, 6, 7, 8, 9, 10, 11] (by decide) rfl
      have hFc := va_free (wc := (wM cs a M)) hD hS hA [0, 1, 2, 3, 4, 5, 6, 7, 8, 9, 10, 11] rfl
      refine va_calli (va_runV (As := []) (rest := []) C (c_X8_no l dC dI cs a s.heap.size M r24 hr24) (cwV 0 hts gX8_from_X8_no rfl rfl rfl (by decide +kernel) ⟨Nat.le_of_ble_eq_true rfl, Nat.le_of_ble_eq_true rfl⟩) ⟨(fun a U g mk q => ⟨q.1, q.2.1, q.2.2.1, GE.calling q.2.2.2.1, q.2.2.2.2⟩), va_recv hK hPc (ci := 8) (q0 := 0) rfl rfl, (fun U hU hW => ⟨rfl, by rw [hU], by rw [hU]; exact hPc, GE.warm hW G, hDc.weaken (fun _ _ _ _ => trivial)⟩)⟩ rfl rfl hl.1 rfl (lv_room (Nat.le_of_ble_eq_true rfl)) dX8_from_24 ⟨Nat.le_of_ble_eq_true rfl, Nat.le_of_ble_eq_true rfl⟩) hS (fun q _ h => hFc q h) hFc (fun q u t H1 locs ht hvm hw hB hz1 hk1 hS => ?_)
      obtain ⟨rfl, rfl⟩ := hw
      obtain ⟨hP1, hD1⟩ := hB
      rw [ht] at hP1
      obtain ⟨hP, hD⟩ := va_join (wr := []) (w1 := (wM cs a r24.2)) hP hD [0, 1, 2, 3, 4, 5, 6, 7, 8, 9, 10, 11] [] rfl rfl (by decide) (by decide) hk1 hFc hP1 hD1
      generalize H1 = H at hP hS ⊢
      have hP := hP.sub (ws' := (wM cs a r24.2)) [0, 1, 2, 3, 4, 5, 6, 7, 8, 9, 10, 11] rfl
      have hD := hD.sub (ws' := (wM cs a r24.2)) [0, 1, 2, 3, 4, 5, 6, 7, 8, 9, 10, 11] (by decide) rfl
      exact hR _ _ _ _ _ _ dX8_from_27 hf hP hD hS
  · replace hf := it_t c1 hf
    refine lv_aload_n hx hb dX8_from_9 rfl (lv_at hl 0 rfl) ?_
    obtain ⟨r10, hr10, hf⟩ := bn_e hf
    have hPc := hP.sub (ws' := (wM cs a M)) [0, 1, 2, 3, 4, 5, 6, 7, 8, 9, 10, 11] rfl
    have hDc := hD.sub (ws' := (wM cs a M)) [0, 1, 2, 3, 4, 5, 6, 7, 8, 9, 10, 11] (by decide) rfl
    have hFc := va_free (wc := (wM cs a M)) hD hS hA [0, 1, 2, 3, 4, 5, 6, 7, 8, 9, 10, 11] rfl
    refine va_calli (va_runV (As := []) (rest := []) C (c_X8_bad l dC dI cs a s.heap.size M r10 hr10) (cwV 0 hts gX8_from_X8_bad rfl rfl rfl (by decide +kernel) ⟨Nat.le_of_ble_eq_true rfl, Nat.le_of_ble_eq_true rfl⟩) ⟨(fun a U g mk q => ⟨q.1, q.2.1, q.2.2.1, GE.calling q.2.2.2.1, q.2.2.2.2⟩), va_recv hK hPc (ci := 8) (q0 := 0) rfl rfl, (fun U hU hW => ⟨rfl, by rw [hU], by rw [hU]; exact hPc, GE.warm hW G, hDc.weaken (fun _ _ _ _ => trivial)⟩)⟩ rfl rfl hl.1 rfl (lv_room (Nat.le_of_ble_eq_true rfl)) dX8_from_10 ⟨Nat.le_of_ble_eq_true rfl, Nat.le_of_ble_eq_true rfl⟩) hS (fun q _ h => hFc q h) hFc (fun q u t H1 locs ht hvm hw hB hz1 hk1 hS => ?_)
    obtain ⟨rfl, rfl⟩ := hw
    obtain ⟨hP1, hD1⟩ := hB
    rw [ht] at hP1
    obtain ⟨hP, hD⟩ := va_join (wr := []) (w1 := (wM cs a r10.2)) hP hD [0, 1, 2, 3, 4, 5, 6, 7, 8, 9, 10, 11] [] rfl rfl (by decide) (by decide) hk1 hFc hP1 hD1
    generalize H1 = H at hP hS ⊢
    have hP := hP.sub (ws' := (wM cs a r10.2)) [0, 1, 2, 3, 4, 5, 6, 7, 8, 9, 10, 11] rfl
    have hD := hD.sub (ws' := (wM cs a r10.2)) [0, 1, 2, 3, 4, 5, 6, 7, 8, 9, 10, 11] (by decide) rfl
    exact hR _ _ _ _ _ _ dX8_from_13 hf hP hD hS

theorem in_X8_status_X8 : ∀ w ∈ wsX80, w ∈ wsX8_status := by decide +kernel
def f_X8_status (x1 : Int32) (M : Ms) : Option (Int32 × Ms) :=
  bn (f_X8_in x1 (0 : Int32) (2 : Int32)) fun r3 =>
  if r3 = 0 then (
    bn (f_X8_badAs (-1 : Int32) M) fun r20 =>
    some (r20.1, r20.2)
  ) else (
    gi (x1) 3 <|
    some (((M.2.2 5) (x1).toNatClampNeg), M)
  )
set_option maxHeartbeats 4000000 in
set_option maxRecDepth 100000 in
theorem c_X8_status (l : Launch) (dC : Nat → ClassId) (dI : Nat → Nat → Nat) (cs : Nat → ClassId) (a : Nat → Nat) (sz : Nat) (M : Ms) (x1 : Int32) (res : Int32 × Ms) (hf : f_X8_status x1 M = some res) : Met l yX8_status wsX8_status ({ frames := 1, cells := 0, slots := 0, locals := 22 }) (va_Pc [.ref (a 0), .int (x1)] (fun U => U.heap.size = sz ∧ va_P (dC, dI) vwCl (wM cs a M) U.heap ∧ GE dC dI cs U ∧ va_D (fun _ => True) (wM cs a M))) (va_Qi (fun r (u : Ms) => r = res.1 ∧ u = res.2) (fun u t => va_P (dC, dI) vwCl ((fun u : Ms => (wM cs a u)) u) t.heap ∧ va_D (va_A (wM cs a M) sz) ((fun u : Ms => (wM cs a u)) u)) (va_A (wM cs a M) sz)) 0 0 (va_A (wM cs a M) sz) := by
  refine Met.ofW (cc := cX8_status) (maxL := 2) (ret := (some .int)) (by decide) rfl ?_
  intro p e s m args below meth c s₁ Bd hml hv
  obtain ⟨rfl, hsz, hP, G, hD0⟩ := hv
  have hts := atoms_spec (ws := wsX8_status) Bd.pre
  have hown : s.vm.findClass RX8 = some m.cls := findClass_of_methodNamed Bd.named
  have hlocks := Bd.notSynchronized
  have hx := Bd.exec
  have hb := Bd.bytes
  have hr := Bd.returns
  have C : CallFix p m c cX8_status 2 s _ wsX8_status RX8 := ⟨hx, hb, hml, hown, hts⟩
  obtain ⟨hK, hN⟩ := id G
  subst hsz
  have hD := hD0.self (sz := s.heap.size)
  generalize hAe : va_A (wM cs a M) s.heap.size = A at hD ⊢
  have hA : ∀ q : Nat, s.heap.size ≤ q → A q := fun q h => by rw [← hAe]; exact Or.inr h
  have hS : va_S A s.heap s.heap [] := va_S.rf
  have hR : RTi p l e ({ frames := 1, cells := 0, slots := 0, locals := 22 }) s m ([.ref (a 0), .int (x1)] : List Value).toArray below meth c cX8_status (MQ below (va_Qi (fun r (u : Ms) => r = res.1 ∧ u = res.2) (fun u t => va_P (dC, dI) vwCl ((fun u : Ms => (wM cs a u)) u) t.heap ∧ va_D A ((fun u : Ms => (wM cs a u)) u)) A) ([.ref (a 0), .int (x1)] : List Value).toArray s 0 0 A) (dC, dI) A (fun u : Ms => (wM cs a u)) res := fun H locs pc ls r u dd h hP hD hS => W.iret hx hb hr (fun t ht hW => ⟨⟨r, u, rfl, by cases h; exact ⟨rfl, rfl⟩, by rw [ht]; exact hP, hD⟩, hS.F ht⟩) hS.2.2 dd
  have hl := lv_entry ([.ref (a 0), .int (x1)]) (n := 2) (Nat.le_of_ble_eq_true rfl)
  rw [lg_entry_eq]
  generalize (lg_sl ([.ref (a 0), .int (x1)]) ++ List.replicate (2 - (lg_sl ([.ref (a 0), .int (x1)])).length) Slot.unset).toArray = ls at hl ⊢
  have hl : lv_has ls 2 [(0, .ref (a 0)), (1, .int (x1))] := hl
  unfold f_X8_status at hf
  refine lv_iload_n hx hb dX8_status_0 rfl (lv_at hl 1 rfl) ?_
  refine lv_iconst (v := 0) hx hb dX8_status_1 (by decide) ?_
  refine lv_iconst (v := 2) hx hb dX8_status_2 (by decide) ?_
  obtain ⟨r3, hr3, hf⟩ := bn_e hf
  have hPc := hP.sub (ws' := ([] : va_W)) [] rfl
  refine vp_callSi (W.runS (As := [.int (x1), .int ((0 : Int32)), .int ((2 : Int32))]) (rest := []) C (c_X8_in l dC dI cs x1 (0 : Int32) (2 : Int32) r3 hr3) (va_cwS 3 hts gX8_status_X8_in rfl rfl rfl (by decide +kernel) ⟨Nat.le_of_ble_eq_true rfl, Nat.le_of_ble_eq_true rfl⟩) ⟨(fun a U g mk q => ⟨q.1, q.2.1, GE.calling q.2.2⟩), (fun U hU hW => ⟨rfl, by rw [hU]; exact hPc, GE.warm hW G⟩)⟩ rfl rfl hl.1 rfl (lv_room (Nat.le_of_ble_eq_true rfl)) dX8_status_3 ⟨Nat.le_of_ble_eq_true rfl, Nat.le_of_ble_eq_true rfl⟩) (fun qr3 hqr3 => ?_)
  obtain ⟨hqr3, hnr3⟩ := hqr3
  obtain rfl := hqr3.symm
  refine lv_if_eq (tgt := 18) hx hb dX8_status_6 (by decide) (fun c1 => ?_) (fun c1 => ?_)
  · replace hf := it_t c1 hf
    refine lv_aload_n hx hb dX8_status_18 rfl (lv_at hl 0 rfl) ?_
    refine lv_iconst (v := -1) hx hb dX8_status_19 (by decide) ?_
    obtain ⟨r20, hr20, hf⟩ := bn_e hf
    have hPc := hP.sub (ws' := (wM cs a M)) [0, 1, 2, 3, 4, 5, 6, 7, 8, 9, 10, 11] rfl
    have hDc := hD.sub (ws' := (wM cs a M)) [0, 1, 2, 3, 4, 5, 6, 7, 8, 9, 10, 11] (by decide) rfl
    have hFc := va_free (wc := (wM cs a M)) hD hS hA [0, 1, 2, 3, 4, 5, 6, 7, 8, 9, 10, 11] rfl
    refine va_calli (va_runV (As := [.int ((-1 : Int32))]) (rest := []) C (c_X8_badAs l dC dI cs a s.heap.size M (-1 : Int32) r20 hr20) (cwV 1 hts gX8_status_X8_badAs rfl rfl rfl (by decide +kernel) ⟨Nat.le_of_ble_eq_true rfl, Nat.le_of_ble_eq_true rfl⟩) ⟨(fun a U g mk q => ⟨q.1, q.2.1, q.2.2.1, GE.calling q.2.2.2.1, q.2.2.2.2⟩), va_recv hK hPc (ci := 8) (q0 := 0) rfl rfl, (fun U hU hW => ⟨rfl, by rw [hU], by rw [hU]; exact hPc, GE.warm hW G, hDc.weaken (fun _ _ _ _ => trivial)⟩)⟩ rfl rfl hl.1 rfl (lv_room (Nat.le_of_ble_eq_true rfl)) dX8_status_20 ⟨Nat.le_of_ble_eq_true rfl, Nat.le_of_ble_eq_true rfl⟩) hS (fun q _ h => hFc q h) hFc (fun q u t H1 locs ht hvm hw hB hz1 hk1 hS => ?_)
    obtain ⟨rfl, rfl⟩ := hw
    obtain ⟨hP1, hD1⟩ := hB
    rw [ht] at hP1
    obtain ⟨hP, hD⟩ := va_join (wr := []) (w1 := (wM cs a r20.2)) hP hD [0, 1, 2, 3, 4, 5, 6, 7, 8, 9, 10, 11] [] rfl rfl (by decide) (by decide) hk1 hFc hP1 hD1
    generalize H1 = H at hP hS ⊢
    have hP := hP.sub (ws' := (wM cs a r20.2)) [0, 1, 2, 3, 4, 5, 6, 7, 8, 9, 10, 11] rfl
    have hD := hD.sub (ws' := (wM cs a r20.2)) [0, 1, 2, 3, 4, 5, 6, 7, 8, 9, 10, 11] (by decide) rfl
    exact hR _ _ _ _ _ _ dX8_status_23 hf hP hD hS
  · replace hf := it_f c1 hf
    refine lv_aload_n hx hb dX8_status_9 rfl (lv_at hl 0 rfl) ?_
    refine va_get (D := (dC, dI)) (ci := 8) (v := .ref (a 6)) (C := RX8) (T := TX8) (N := 20) hx hb hts in_X8_status_X8 hown hK hP 0 rfl rfl 5 (by decide) (hts (.fieldLink RX8 26 "BackLoansModel" "refused" "[I") (by decide +kernel)) (fun _ h9 => h9) rfl dX8_status_10 ?_
    refine lv_iload_n hx hb dX8_status_13 rfl (lv_at hl 1 rfl) ?_
    obtain ⟨hi2, hf⟩ := gi_e hf
    refine va_iald hx hb hK hP 6 0 rfl rfl hi2 dX8_status_14 ?_
    refine lv_goto (tgt := 23) hx hb dX8_status_15 (by decide) ?_
    exact hR _ _ _ _ _ _ dX8_status_23 hf hP hD hS

theorem in_X8_countOf_X8 : ∀ w ∈ wsX80, w ∈ wsX8_countOf := by decide +kernel
def f_X8_countOf (x1 : Int32) (M : Ms) : Option Int32 :=
  if x1 = (8 : Int32) then (
    some (M.1 0)
  ) else (
    if x1 = (7 : Int32) then (
      gi ((7 : Int32)) 362 <|
      some ((M.2.2 0) ((7 : Int32)).toNatClampNeg)
    ) else (
      if x1 = (6 : Int32) then (
        gi ((6 : Int32)) 362 <|
        some ((M.2.2 0) ((6 : Int32)).toNatClampNeg)
      ) else (
        gi (x1) 362 <|
        some ((M.2.2 0) (x1).toNatClampNeg)
      )
    )
  )
set_option maxHeartbeats 4000000 in
set_option maxRecDepth 100000 in
theorem c_X8_countOf (l : Launch) (dC : Nat → ClassId) (dI : Nat → Nat → Nat) (cs : Nat → ClassId) (a : Nat → Nat) (M : Ms) (x1 : Int32) (res : Int32) (hf : f_X8_countOf x1 M = some res) : Met l yX8_countOf wsX8_countOf ({ frames := 0, cells := 0, slots := 0, locals := 0 }) (va_Pc [.ref (a 0), .int (x1)] (fun U => va_P (dC, dI) vwCl (wM cs a M) U.heap ∧ GE dC dI cs U)) (vp_Si (fun r => r = res)) 0 0 (fun _ => False) := by
  refine Met.ofW (cc := cX8_countOf) (maxL := 2) (ret := (some .int)) (by decide) rfl ?_
  intro p e s m args below meth c s₁ Bd hml hv
  obtain ⟨rfl, hP, G⟩ := hv
  have hts := atoms_spec (ws := wsX8_countOf) Bd.pre
  have hown : s.vm.findClass RX8 = some m.cls := findClass_of_methodNamed Bd.named
  have hlocks := Bd.notSynchronized
  have hx := Bd.exec
  have hb := Bd.bytes
  have hr := Bd.returns
  have C : CallFix p m c cX8_countOf 2 s _ wsX8_countOf RX8 := ⟨hx, hb, hml, hown, hts⟩
  obtain ⟨hK, hN⟩ := id G
  have hR : RPi p l e ({ frames := 0, cells := 0, slots := 0, locals := 0 }) s m ([.ref (a 0), .int (x1)] : List Value).toArray below meth c cX8_countOf (MQ below (vp_Si (fun r => r = res)) ([.ref (a 0), .int (x1)] : List Value).toArray s 0 0 (fun _ => False)) res := fun pc ls r dd h => W.iret hx hb hr (fun t ht hW => ⟨r, rfl, Option.some.inj h, ht⟩) (fun q hq => by cases hq) dd
  have hl := lv_entry ([.ref (a 0), .int (x1)]) (n := 2) (Nat.le_of_ble_eq_true rfl)
  rw [lg_entry_eq]
  generalize (lg_sl ([.ref (a 0), .int (x1)]) ++ List.replicate (2 - (lg_sl ([.ref (a 0), .int (x1)])).length) Slot.unset).toArray = ls at hl ⊢
  have hl : lv_has ls 2 [(0, .ref (a 0)), (1, .int (x1))] := hl
  unfold f_X8_countOf at hf
  refine lv_iload_n hx hb dX8_countOf_0 rfl (lv_at hl 1 rfl) ?_
  refine lv_bipush (v := 8) hx hb dX8_countOf_1 (by decide) ?_
  refine lv_icmp_ne (tgt := 13) hx hb dX8_countOf_3 (by decide) (fun c1 => ?_) (fun c1 => ?_)
  · replace hf := it_f c1 hf
    refine lv_iload_n hx hb dX8_countOf_13 rfl (lv_at hl 1 rfl) ?_
    refine lv_bipush (v := 7) hx hb dX8_countOf_14 (by decide) ?_
    refine lv_icmp_ne (tgt := 29) hx hb dX8_countOf_16 (by decide) (fun c2 => ?_) (fun c2 => ?_)
    · replace hf := it_f c2 hf
      refine lv_iload_n hx hb dX8_countOf_29 rfl (lv_at hl 1 rfl) ?_
      refine lv_bipush (v := 6) hx hb dX8_countOf_30 (by decide) ?_
      refine lv_icmp_ne (tgt := 45) hx hb dX8_countOf_32 (by decide) (fun c3 => ?_) (fun c3 => ?_)
      · replace hf := it_f c3 hf
        refine lv_aload_n hx hb dX8_countOf_45 rfl (lv_at hl 0 rfl) ?_
        refine va_get (D := (dC, dI)) (ci := 8) (v := .ref (a 1)) (C := RX8) (T := TX8) (N := 20) hx hb hts in_X8_countOf_X8 hown hK hP 0 rfl rfl 0 (by decide) (hts (.fieldLink RX8 7 "BackLoansModel" "now" "[I") (by decide +kernel)) (fun _ h9 => h9) rfl dX8_countOf_46 ?_
        refine lv_iload_n hx hb dX8_countOf_49 rfl (lv_at hl 1 rfl) ?_
        obtain ⟨hi4, hf⟩ := gi_e hf
        refine va_iald hx hb hK hP 1 0 rfl rfl hi4 dX8_countOf_50 ?_
        exact hR _ _ _ dX8_countOf_51 hf
      · replace hf := it_t c3 hf
        refine lv_aload_n hx hb dX8_countOf_35 rfl (lv_at hl 0 rfl) ?_
        refine va_get (D := (dC, dI)) (ci := 8) (v := .ref (a 1)) (C := RX8) (T := TX8) (N := 20) hx hb hts in_X8_countOf_X8 hown hK hP 0 rfl rfl 0 (by decide) (hts (.fieldLink RX8 7 "BackLoansModel" "now" "[I") (by decide +kernel)) (fun _ h9 => h9) rfl dX8_countOf_36 ?_
        refine lv_bipush (v := 6) hx hb dX8_countOf_39 (by decide) ?_
        obtain ⟨hi5, hf⟩ := gi_e hf
        refine va_iald hx hb hK hP 1 0 rfl rfl hi5 dX8_countOf_41 ?_
        refine lv_goto (tgt := 51) hx hb dX8_countOf_42 (by decide) ?_
        exact hR _ _ _ dX8_countOf_51 hf
    · replace hf := it_t c2 hf
      refine lv_aload_n hx hb dX8_countOf_19 rfl (lv_at hl 0 rfl) ?_
      refine va_get (D := (dC, dI)) (ci := 8) (v := .ref (a 1)) (C := RX8) (T := TX8) (N := 20) hx hb hts in_X8_countOf_X8 hown hK hP 0 rfl rfl 0 (by decide) (hts (.fieldLink RX8 7 "BackLoansModel" "now" "[I") (by decide +kernel)) (fun _ h9 => h9) rfl dX8_countOf_20 ?_
      refine lv_bipush (v := 7) hx hb dX8_countOf_23 (by decide) ?_
      obtain ⟨hi6, hf⟩ := gi_e hf
      refine va_iald hx hb hK hP 1 0 rfl rfl hi6 dX8_countOf_25 ?_
      refine lv_goto (tgt := 51) hx hb dX8_countOf_26 (by decide) ?_
      exact hR _ _ _ dX8_countOf_51 hf
  · replace hf := it_t c1 hf
    refine lv_aload_n hx hb dX8_countOf_6 rfl (lv_at hl 0 rfl) ?_
    refine va_get (D := (dC, dI)) (ci := 8) (v := .int ((M.1 0))) (C := RX8) (T := TX8) (N := 20) hx hb hts in_X8_countOf_X8 hown hK hP 0 rfl rfl 7 (by decide) (hts (.fieldLink RX8 79 "BackLoansModel" "typed" "I") (by decide +kernel)) (fun _ h9 => h9) rfl dX8_countOf_7 ?_
    refine lv_goto (tgt := 51) hx hb dX8_countOf_10 (by decide) ?_
    exact hR _ _ _ dX8_countOf_51 hf

def f_X8_count (x1 : Int32) (M : Ms) : Option (Int32 × Ms) :=
  bn (f_X8_in x1 (0 : Int32) (8 : Int32)) fun r4 =>
  if r4 = 0 then (
    bn (f_X8_bad M) fun r19 =>
    some (r19.1, r19.2)
  ) else (
    bn (f_X8_countOf x1 M) fun r12 =>
    some (r12, M)
  )
set_option maxHeartbeats 4000000 in
set_option maxRecDepth 100000 in
theorem c_X8_count (l : Launch) (dC : Nat → ClassId) (dI : Nat → Nat → Nat) (cs : Nat → ClassId) (a : Nat → Nat) (sz : Nat) (M : Ms) (x1 : Int32) (res : Int32 × Ms) (hf : f_X8_count x1 M = some res) : Met l yX8_count wsX8_count ({ frames := 1, cells := 0, slots := 0, locals := 22 }) (va_Pc [.ref (a 0), .int (x1)] (fun U => U.heap.size = sz ∧ va_P (dC, dI) vwCl (wM cs a M) U.heap ∧ GE dC dI cs U ∧ va_D (fun _ => True) (wM cs a M))) (va_Qi (fun r (u : Ms) => r = res.1 ∧ u = res.2) (fun u t => va_P (dC, dI) vwCl ((fun u : Ms => (wM cs a u)) u) t.heap ∧ va_D (va_A (wM cs a M) sz) ((fun u : Ms => (wM cs a u)) u)) (va_A (wM cs a M) sz)) 0 0 (va_A (wM cs a M) sz) := by
  refine Met.ofW (cc := cX8_count) (maxL := 2) (ret := (some .int)) (by decide) rfl ?_
  intro p e s m args below meth c s₁ Bd hml hv
  obtain ⟨rfl, hsz, hP, G, hD0⟩ := hv
  have hts := atoms_spec (ws := wsX8_count) Bd.pre
  have hown : s.vm.findClass RX8 = some m.cls := findClass_of_methodNamed Bd.named
  have hlocks := Bd.notSynchronized
  have hx := Bd.exec
  have hb := Bd.bytes
  have hr := Bd.returns
  have C : CallFix p m c cX8_count 2 s _ wsX8_count RX8 := ⟨hx, hb, hml, hown, hts⟩
  obtain ⟨hK, hN⟩ := id G
  subst hsz
  have hD := hD0.self (sz := s.heap.size)
  generalize hAe : va_A (wM cs a M) s.heap.size = A at hD ⊢
  have hA : ∀ q : Nat, s.heap.size ≤ q → A q := fun q h => by rw [← hAe]; exact Or.inr h
  have hS : va_S A s.heap s.heap [] := va_S.rf
  have hR : RTi p l e ({ frames := 1, cells := 0, slots := 0, locals := 22 }) s m ([.ref (a 0), .int (x1)] : List Value).toArray below meth c cX8_count (MQ below (va_Qi (fun r (u : Ms) => r = res.1 ∧ u = res.2) (fun u t => va_P (dC, dI) vwCl ((fun u : Ms => (wM cs a u)) u) t.heap ∧ va_D A ((fun u : Ms => (wM cs a u)) u)) A) ([.ref (a 0), .int (x1)] : List Value).toArray s 0 0 A) (dC, dI) A (fun u : Ms => (wM cs a u)) res := fun H locs pc ls r u dd h hP hD hS => W.iret hx hb hr (fun t ht hW => ⟨⟨r, u, rfl, by cases h; exact ⟨rfl, rfl⟩, by rw [ht]; exact hP, hD⟩, hS.F ht⟩) hS.2.2 dd
  have hl := lv_entry ([.ref (a 0), .int (x1)]) (n := 2) (Nat.le_of_ble_eq_true rfl)
  rw [lg_entry_eq]
  generalize (lg_sl ([.ref (a 0), .int (x1)]) ++ List.replicate (2 - (lg_sl ([.ref (a 0), .int (x1)])).length) Slot.unset).toArray = ls at hl ⊢
  have hl : lv_has ls 2 [(0, .ref (a 0)), (1, .int (x1))] := hl
  unfold f_X8_count at hf
  refine lv_iload_n hx hb dX8_count_0 rfl (lv_at hl 1 rfl) ?_
  refine lv_iconst (v := 0) hx hb dX8_count_1 (by decide) ?_
  refine lv_bipush (v := 8) hx hb dX8_count_2 (by decide) ?_
  obtain ⟨r4, hr4, hf⟩ := bn_e hf
  have hPc := hP.sub (ws' := ([] : va_W)) [] rfl
  refine vp_callSi (W.runS (As := [.int (x1), .int ((0 : Int32)), .int ((8 : Int32))]) (rest := []) C (c_X8_in l dC dI cs x1 (0 : Int32) (8 : Int32) r4 hr4) (va_cwS 3 hts gX8_count_X8_in rfl rfl rfl (by decide +kernel) ⟨Nat.le_of_ble_eq_true rfl, Nat.le_of_ble_eq_true rfl⟩) ⟨(fun a U g mk q => ⟨q.1, q.2.1, GE.calling q.2.2⟩), (fun U hU hW => ⟨rfl, by rw [hU]; exact hPc, GE.warm hW G⟩)⟩ rfl rfl hl.1 rfl (lv_room (Nat.le_of_ble_eq_true rfl)) dX8_count_4 ⟨Nat.le_of_ble_eq_true rfl, Nat.le_of_ble_eq_true rfl⟩) (fun qr4 hqr4 => ?_)
  obtain ⟨hqr4, hnr4⟩ := hqr4
  obtain rfl := hqr4.symm
  refine lv_if_eq (tgt := 18) hx hb dX8_count_7 (by decide) (fun c1 => ?_) (fun c1 => ?_)
  · replace hf := it_t c1 hf
    refine lv_aload_n hx hb dX8_count_18 rfl (lv_at hl 0 rfl) ?_
    obtain ⟨r19, hr19, hf⟩ := bn_e hf
    have hPc := hP.sub (ws' := (wM cs a M)) [0, 1, 2, 3, 4, 5, 6, 7, 8, 9, 10, 11] rfl
    have hDc := hD.sub (ws' := (wM cs a M)) [0, 1, 2, 3, 4, 5, 6, 7, 8, 9, 10, 11] (by decide) rfl
    have hFc := va_free (wc := (wM cs a M)) hD hS hA [0, 1, 2, 3, 4, 5, 6, 7, 8, 9, 10, 11] rfl
    refine va_calli (va_runV (As := []) (rest := []) C (c_X8_bad l dC dI cs a s.heap.size M r19 hr19) (cwV 0 hts gX8_count_X8_bad rfl rfl rfl (by decide +kernel) ⟨Nat.le_of_ble_eq_true rfl, Nat.le_of_ble_eq_true rfl⟩) ⟨(fun a U g mk q => ⟨q.1, q.2.1, q.2.2.1, GE.calling q.2.2.2.1, q.2.2.2.2⟩), va_recv hK hPc (ci := 8) (q0 := 0) rfl rfl, (fun U hU hW => ⟨rfl, by rw [hU], by rw [hU]; exact hPc, GE.warm hW G, hDc.weaken (fun _ _ _ _ => trivial)⟩)⟩ rfl rfl hl.1 rfl (lv_room (Nat.le_of_ble_eq_true rfl)) dX8_count_19 ⟨Nat.le_of_ble_eq_true rfl, Nat.le_of_ble_eq_true rfl⟩) hS (fun q _ h => hFc q h) hFc (fun q u t H1 locs ht hvm hw hB hz1 hk1 hS => ?_)
    obtain ⟨rfl, rfl⟩ := hw
    obtain ⟨hP1, hD1⟩ := hB
    rw [ht] at hP1
    obtain ⟨hP, hD⟩ := va_join (wr := []) (w1 := (wM cs a r19.2)) hP hD [0, 1, 2, 3, 4, 5, 6, 7, 8, 9, 10, 11] [] rfl rfl (by decide) (by decide) hk1 hFc hP1 hD1
    generalize H1 = H at hP hS ⊢
    have hP := hP.sub (ws' := (wM cs a r19.2)) [0, 1, 2, 3, 4, 5, 6, 7, 8, 9, 10, 11] rfl
    have hD := hD.sub (ws' := (wM cs a r19.2)) [0, 1, 2, 3, 4, 5, 6, 7, 8, 9, 10, 11] (by decide) rfl
    exact hR _ _ _ _ _ _ dX8_count_22 hf hP hD hS
  · replace hf := it_f c1 hf
    refine lv_aload_n hx hb dX8_count_10 rfl (lv_at hl 0 rfl) ?_
    refine lv_iload_n hx hb dX8_count_11 rfl (lv_at hl 1 rfl) ?_
    obtain ⟨r12, hr12, hf⟩ := bn_e hf
    have hPc := hP.sub (ws' := (wM cs a M)) [0, 1, 2, 3, 4, 5, 6, 7, 8, 9, 10, 11] rfl
    refine vp_callSi (W.runV (As := [.int (x1)]) (rest := []) C (c_X8_countOf l dC dI cs a M x1 r12 hr12) (cwV 1 hts gX8_count_X8_countOf rfl rfl rfl (by decide +kernel) ⟨Nat.le_of_ble_eq_true rfl, Nat.le_of_ble_eq_true rfl⟩) ⟨(fun a U g mk q => ⟨q.1, q.2.1, GE.calling q.2.2⟩), va_recv hK hPc (ci := 8) (q0 := 0) rfl rfl, (fun U hU hW => ⟨rfl, by rw [hU]; exact hPc, GE.warm hW G⟩)⟩ rfl rfl hl.1 rfl (lv_room (Nat.le_of_ble_eq_true rfl)) dX8_count_12 ⟨Nat.le_of_ble_eq_true rfl, Nat.le_of_ble_eq_true rfl⟩) (fun qr12 hqr12 => ?_)
    obtain rfl := hqr12.symm
    refine lv_goto (tgt := 22) hx hb dX8_count_15 (by decide) ?_
    exact hR _ _ _ _ _ _ dX8_count_22 hf hP hD hS

theorem in_X8_mixed_X8 : ∀ w ∈ wsX80, w ∈ wsX8_mixed := by decide +kernel
def f_X8_mixed_6 (x3 : Int32) (x4 : Int32) (x5 : Int64) (x7 : Int32) (M : Ms) (K6 : Int64 → Int32 → Option Int64) : Option Int64 :=
  if (x3 + x4) ≤ x7 then (
    some x5
  ) else (
    gi (x7) 362 <|
    lett (((31 : Int64) * x5) + (((M.2.2 0) (x7).toNatClampNeg)).toInt64) fun x5_30 =>
    lett (x7 + 1) fun x7_32 =>
    K6 x5_30 x7_32
  )
set_option maxHeartbeats 4000000 in
set_option maxRecDepth 100000 in
theorem b_X8_mixed_6 {p : Program} {l : Launch} {e : Env} {s : State} {m : MethodId} {args : Array Value} {below : List Frame} {meth : Method} {c : Code} {Q : State → Prop} {dC : Nat → ClassId} {dI : Nat → Nat → Nat} {cs : Nat → ClassId} {a : Nat → Nat} {res : Int64} (C : CallFix p m c cX8_mixed 8 s args wsX8_mixed RX8) (G : GE dC dI cs s) (hR : RPl p l e ({ frames := 0, cells := 0, slots := 0, locals := 0 }) s m args below meth c cX8_mixed Q res) {M : Ms} (hP : va_P (dC, dI) vwCl (wM cs a M) s.heap) (x3 : Int32) (x4 : Int32) (x5 : Int64) (x7 : Int32) (_ : Ms) {K6 : Int64 → Int32 → Option Int64} (hK6 : ∀ (x5 : Int64) (x7 : Int32) (ls : Array Slot), lv_has ls 8 [(0, .ref (a 0)), (3, .int (x3)), (4, .int (x4)), (5, .long (x5)), (7, .int (x7))] → K6 x5 x7 = some res → W p l e ({ frames := 0, cells := 0, slots := 0, locals := 0 }) s m args below meth c s.heap [] 0 0 Q (F0 m 6 ls [])) (ls : Array Slot) (hl : lv_has ls 8 [(0, .ref (a 0)), (3, .int (x3)), (4, .int (x4)), (5, .long (x5)), (7, .int (x7))]) (hf : f_X8_mixed_6 x3 x4 x5 x7 M K6 = some res) : W p l e ({ frames := 0, cells := 0, slots := 0, locals := 0 }) s m args below meth c s.heap [] 0 0 Q (F0 m 6 ls []) := by
  obtain ⟨hx, hb, hml, hown, hts⟩ := id C
  obtain ⟨hK, hN⟩ := id G
  unfold f_X8_mixed_6 at hf
  refine lv_iload hx hb dX8_mixed_6 (lv_at hl 4 rfl) ?_
  refine lv_iload_n hx hb dX8_mixed_8 rfl (lv_at hl 1 rfl) ?_
  refine lv_iload hx hb dX8_mixed_9 (lv_at hl 2 rfl) ?_
  refine lv_iadd hx hb dX8_mixed_11 ?_
  refine lv_icmp_ge (tgt := 38) hx hb dX8_mixed_12 (by decide) (fun c1 => ?_) (fun c1 => ?_)
  · replace hf := it_t c1 hf
    refine lv_lload hx hb dX8_mixed_38 (lv_at hl 3 rfl) ?_
    exact hR _ _ _ dX8_mixed_40 hf
  · replace hf := it_f c1 hf
    refine lv_ldc2 (v := 31) hx hb hown (hts (.constantLong RX8 247 (31)) (by decide +kernel)) dX8_mixed_15 ?_
    refine lv_lload hx hb dX8_mixed_18 (lv_at hl 3 rfl) ?_
    refine lv_lmul hx hb dX8_mixed_20 ?_
    refine lv_aload_n hx hb dX8_mixed_21 rfl (lv_at hl 0 rfl) ?_
    refine va_get (D := (dC, dI)) (ci := 8) (v := .ref (a 1)) (C := RX8) (T := TX8) (N := 20) hx hb hts in_X8_mixed_X8 hown hK hP 0 rfl rfl 0 (by decide) (hts (.fieldLink RX8 7 "BackLoansModel" "now" "[I") (by decide +kernel)) (fun _ h9 => h9) rfl dX8_mixed_22 ?_
    refine lv_iload hx hb dX8_mixed_25 (lv_at hl 4 rfl) ?_
    obtain ⟨hi2, hf⟩ := gi_e hf
    refine va_iald hx hb hK hP 1 0 rfl rfl hi2 dX8_mixed_27 ?_
    refine lv_i2l hx hb dX8_mixed_28 rfl ?_
    refine lv_ladd hx hb dX8_mixed_29 ?_
    refine lv_topl (fun x5_30 ex5_30 => ?_)
    replace hf := lett_s ex5_30 hf
    refine lv_lstore (lv' := [(5, .long (x5_30)), (0, .ref (a 0)), (3, .int (x3)), (4, .int (x4)), (7, .int (x7))]) hx hb dX8_mixed_30 hl (by decide) rfl (fun ls hl => ?_)
    obtain ⟨x7_32, ex7_32⟩ : ∃ y : Int32, y = (x7 + 1) := ⟨_, rfl⟩
    replace hf := lett_s ex7_32 hf
    refine lv_iinc (v := x7_32) (lv' := [(7, .int (x7_32)), (5, .long (x5_30)), (0, .ref (a 0)), (3, .int (x3)), (4, .int (x4))]) hx hb dX8_mixed_32 hl (k := 4) rfl (by rw [ex7_32]; rfl) (by decide) rfl (fun ls hl => ?_)
    refine lv_goto (tgt := 6) hx hb dX8_mixed_35 (by decide) ?_
    exact hK6 x5_30 x7_32 _ (lv_sub hl [2, 3, 4, 1, 0] rfl) hf
def l_X8_mixed_6 (x3 : Int32) (x4 : Int32) (M : Ms)  (n : Nat) (x5 : Int64) (x7 : Int32) : Option Int64 := itr (fun (k : Int64 × Int32 → Option Int64) (z : Int64 × Int32) => f_X8_mixed_6 x3 x4 z.1 z.2 M (fun x5 x7 => k (x5, x7))) n (x5, x7)
set_option maxHeartbeats 4000000 in
set_option maxRecDepth 100000 in
theorem w_X8_mixed_6 {p : Program} {l : Launch} {e : Env} {s : State} {m : MethodId} {args : Array Value} {below : List Frame} {meth : Method} {c : Code} {Q : State → Prop} {dC : Nat → ClassId} {dI : Nat → Nat → Nat} {cs : Nat → ClassId} {a : Nat → Nat} {res : Int64} (C : CallFix p m c cX8_mixed 8 s args wsX8_mixed RX8) (G : GE dC dI cs s) (hR : RPl p l e ({ frames := 0, cells := 0, slots := 0, locals := 0 }) s m args below meth c cX8_mixed Q res) {M : Ms} (hP : va_P (dC, dI) vwCl (wM cs a M) s.heap) (x3 : Int32) (x4 : Int32) (_ : Ms)   : ∀ (n : Nat) (x5 : Int64) (x7 : Int32) (ls : Array Slot), lv_has ls 8 [(0, .ref (a 0)), (3, .int (x3)), (4, .int (x4)), (5, .long (x5)), (7, .int (x7))] → l_X8_mixed_6 x3 x4 M n x5 x7 = some res → W p l e ({ frames := 0, cells := 0, slots := 0, locals := 0 }) s m args below meth c s.heap [] 0 0 Q (F0 m 6 ls []) := by
  intro n
  induction n with
  | zero => intro x5 x7 ls hl hf; exact absurd hf (by simp [l_X8_mixed_6, itr])
  | succ n ih =>
    intro x5 x7 ls hl hf
    replace hf : f_X8_mixed_6 x3 x4 x5 x7 M (fun x5 x7 => l_X8_mixed_6 x3 x4 M n x5 x7) = some res := by rw [← hf]; unfold l_X8_mixed_6; rw [itr_s]
    exact b_X8_mixed_6 C G hR hP x3 x4 x5 x7 M (K6 := fun x5 x7 => l_X8_mixed_6 x3 x4 M n x5 x7) (fun x5 x7 ls hl hf => ih x5 x7 ls hl hf) ls hl hf
def f_X8_mixed (x1 : Int64) (x3 : Int32) (x4 : Int32) (M : Ms) : Option Int64 :=
  l_X8_mixed_6 x3 x4 M FU x1 x3
set_option maxHeartbeats 4000000 in
set_option maxRecDepth 100000 in
theorem c_X8_mixed (l : Launch) (dC : Nat → ClassId) (dI : Nat → Nat → Nat) (cs : Nat → ClassId) (a : Nat → Nat) (M : Ms) (x1 : Int64) (x3 : Int32) (x4 : Int32) (res : Int64) (hf : f_X8_mixed x1 x3 x4 M = some res) : Met l yX8_mixed wsX8_mixed ({ frames := 0, cells := 0, slots := 0, locals := 0 }) (va_Pc [.ref (a 0), .long (x1), .int (x3), .int (x4)] (fun U => va_P (dC, dI) vwCl (wM cs a M) U.heap ∧ GE dC dI cs U)) (vp_Sl (fun r => r = res)) 0 0 (fun _ => False) := by
  refine Met.ofW (cc := cX8_mixed) (maxL := 8) (ret := (some .long)) (by decide) rfl ?_
  intro p e s m args below meth c s₁ Bd hml hv
  obtain ⟨rfl, hP, G⟩ := hv
  have hts := atoms_spec (ws := wsX8_mixed) Bd.pre
  have hown : s.vm.findClass RX8 = some m.cls := findClass_of_methodNamed Bd.named
  have hlocks := Bd.notSynchronized
  have hx := Bd.exec
  have hb := Bd.bytes
  have hr := Bd.returns
  have C : CallFix p m c cX8_mixed 8 s _ wsX8_mixed RX8 := ⟨hx, hb, hml, hown, hts⟩
  obtain ⟨hK, hN⟩ := id G
  have hR : RPl p l e ({ frames := 0, cells := 0, slots := 0, locals := 0 }) s m ([.ref (a 0), .long (x1), .int (x3), .int (x4)] : List Value).toArray below meth c cX8_mixed (MQ below (vp_Sl (fun r => r = res)) ([.ref (a 0), .long (x1), .int (x3), .int (x4)] : List Value).toArray s 0 0 (fun _ => False)) res := fun pc ls r dd h => W.lret hx hb hr (fun t ht hW => ⟨r, rfl, Option.some.inj h, ht⟩) (fun q hq => by cases hq) dd
  have hl := lv_entry ([.ref (a 0), .long (x1), .int (x3), .int (x4)]) (n := 8) (Nat.le_of_ble_eq_true rfl)
  rw [lg_entry_eq]
  generalize (lg_sl ([.ref (a 0), .long (x1), .int (x3), .int (x4)]) ++ List.replicate (8 - (lg_sl ([.ref (a 0), .long (x1), .int (x3), .int (x4)])).length) Slot.unset).toArray = ls at hl ⊢
  have hl : lv_has ls 8 [(0, .ref (a 0)), (1, .long (x1)), (3, .int (x3)), (4, .int (x4))] := hl
  unfold f_X8_mixed at hf
  refine lv_lload_n hx hb dX8_mixed_0 rfl (lv_at hl 1 rfl) ?_
  refine lv_lstore (lv' := [(5, .long (x1)), (0, .ref (a 0)), (1, .long (x1)), (3, .int (x3)), (4, .int (x4))]) hx hb dX8_mixed_1 hl (by decide) rfl (fun ls hl => ?_)
  refine lv_iload_n hx hb dX8_mixed_3 rfl (lv_at hl 3 rfl) ?_
  refine lv_istore (lv' := [(7, .int (x3)), (5, .long (x1)), (0, .ref (a 0)), (1, .long (x1)), (3, .int (x3)), (4, .int (x4))]) hx hb dX8_mixed_4 hl (by decide) rfl (fun ls hl => ?_)
  exact w_X8_mixed_6 C G hR hP x3 x4 M FU x1 x3 _ (lv_sub hl [2, 4, 5, 1, 0] rfl) hf

theorem in_X8_digest_X8 : ∀ w ∈ wsX80, w ∈ wsX8_digest := by decide +kernel
def f_X8_digest_6 (x1 : Int64) (x3 : Int32) (M : Ms) (K6 : Int64 → Int32 → Option Int64) (K31 : Int64 → Option Int64) : Option Int64 :=
  if (9 : Int32) ≤ x3 then (
    K31 x1
  ) else (
    bn (f_X8_countOf x3 M) fun r19 =>
    lett (((31 : Int64) * x1) + (r19).toInt64) fun x1_24 =>
    lett (x3 + 1) fun x3_25 =>
    K6 x1_24 x3_25
  )
set_option maxHeartbeats 4000000 in
set_option maxRecDepth 100000 in
theorem b_X8_digest_6 {p : Program} {l : Launch} {e : Env} {s : State} {m : MethodId} {args : Array Value} {below : List Frame} {meth : Method} {c : Code} {Q : State → Prop} {dC : Nat → ClassId} {dI : Nat → Nat → Nat} {cs : Nat → ClassId} {a : Nat → Nat} {res : Int64} (C : CallFix p m c cX8_digest 4 s args wsX8_digest RX8) (G : GE dC dI cs s) (hR : RPl p l e ({ frames := 1, cells := 0, slots := 0, locals := 27 }) s m args below meth c cX8_digest Q res) {M : Ms} (hP : va_P (dC, dI) vwCl (wM cs a M) s.heap) (x1 : Int64) (x3 : Int32) (_ : Ms) {K6 : Int64 → Int32 → Option Int64} {K31 : Int64 → Option Int64} (hK6 : ∀ (x1 : Int64) (x3 : Int32) (ls : Array Slot), lv_has ls 4 [(0, .ref (a 0)), (1, .long (x1)), (3, .int (x3))] → K6 x1 x3 = some res → W p l e ({ frames := 1, cells := 0, slots := 0, locals := 27 }) s m args below meth c s.heap [] 0 0 Q (F0 m 6 ls [])) (hK31 : ∀ (x1 : Int64) (ls : Array Slot), lv_has ls 4 [(0, .ref (a 0)), (1, .long (x1))] → K31 x1 = some res → W p l e ({ frames := 1, cells := 0, slots := 0, locals := 27 }) s m args below meth c s.heap [] 0 0 Q (F0 m 31 ls [])) (ls : Array Slot) (hl : lv_has ls 4 [(0, .ref (a 0)), (1, .long (x1)), (3, .int (x3))]) (hf : f_X8_digest_6 x1 x3 M K6 K31 = some res) : W p l e ({ frames := 1, cells := 0, slots := 0, locals := 27 }) s m args below meth c s.heap [] 0 0 Q (F0 m 6 ls []) := by
  obtain ⟨hx, hb, hml, hown, hts⟩ := id C
  obtain ⟨hK, hN⟩ := id G
  unfold f_X8_digest_6 at hf
  refine lv_iload_n hx hb dX8_digest_6 rfl (lv_at hl 2 rfl) ?_
  refine lv_bipush (v := 9) hx hb dX8_digest_7 (by decide) ?_
  refine lv_icmp_ge (tgt := 31) hx hb dX8_digest_9 (by decide) (fun c1 => ?_) (fun c1 => ?_)
  · replace hf := it_t c1 hf
    exact hK31 x1 _ (lv_sub hl [0, 1] rfl) hf
  · replace hf := it_f c1 hf
    refine lv_ldc2 (v := 31) hx hb hown (hts (.constantLong RX8 247 (31)) (by decide +kernel)) dX8_digest_12 ?_
    refine lv_lload_n hx hb dX8_digest_15 rfl (lv_at hl 1 rfl) ?_
    refine lv_lmul hx hb dX8_digest_16 ?_
    refine lv_aload_n hx hb dX8_digest_17 rfl (lv_at hl 0 rfl) ?_
    refine lv_iload_n hx hb dX8_digest_18 rfl (lv_at hl 2 rfl) ?_
    obtain ⟨r19, hr19, hf⟩ := bn_e hf
    have hPc := hP.sub (ws' := (wM cs a M)) [0, 1, 2, 3, 4, 5, 6, 7, 8, 9, 10, 11] rfl
    refine vp_callSi (W.runV (As := [.int (x3)]) (rest := [.long (((31 : Int64) * x1))]) C (c_X8_countOf l dC dI cs a M x3 r19 hr19) (cwV 1 hts gX8_digest_X8_countOf rfl rfl rfl (by decide +kernel) ⟨Nat.le_of_ble_eq_true rfl, Nat.le_of_ble_eq_true rfl⟩) ⟨(fun a U g mk q => ⟨q.1, q.2.1, GE.calling q.2.2⟩), va_recv hK hPc (ci := 8) (q0 := 0) rfl rfl, (fun U hU hW => ⟨rfl, by rw [hU]; exact hPc, GE.warm hW G⟩)⟩ rfl rfl hl.1 rfl (lv_room (Nat.le_of_ble_eq_true rfl)) dX8_digest_19 ⟨Nat.le_of_ble_eq_true rfl, Nat.le_of_ble_eq_true rfl⟩) (fun qr19 hqr19 => ?_)
    obtain rfl := hqr19.symm
    refine lv_i2l hx hb dX8_digest_22 rfl ?_
    refine lv_ladd hx hb dX8_digest_23 ?_
    refine lv_topl (fun x1_24 ex1_24 => ?_)
    replace hf := lett_s ex1_24 hf
    refine lv_lstore_n (lv' := [(1, .long (x1_24)), (0, .ref (a 0)), (3, .int (x3))]) hx hb dX8_digest_24 rfl hl (by decide) rfl (fun ls hl => ?_)
    obtain ⟨x3_25, ex3_25⟩ : ∃ y : Int32, y = (x3 + 1) := ⟨_, rfl⟩
    replace hf := lett_s ex3_25 hf
    refine lv_iinc (v := x3_25) (lv' := [(3, .int (x3_25)), (1, .long (x1_24)), (0, .ref (a 0))]) hx hb dX8_digest_25 hl (k := 2) rfl (by rw [ex3_25]; rfl) (by decide) rfl (fun ls hl => ?_)
    refine lv_goto (tgt := 6) hx hb dX8_digest_28 (by decide) ?_
    exact hK6 x1_24 x3_25 _ (lv_sub hl [2, 1, 0] rfl) hf
def l_X8_digest_6 (M : Ms) (K31 : Int64 → Option Int64) (n : Nat) (x1 : Int64) (x3 : Int32) : Option Int64 := itr (fun (k : Int64 × Int32 → Option Int64) (z : Int64 × Int32) => f_X8_digest_6 z.1 z.2 M (fun x1 x3 => k (x1, x3)) K31) n (x1, x3)
set_option maxHeartbeats 4000000 in
set_option maxRecDepth 100000 in
theorem w_X8_digest_6 {p : Program} {l : Launch} {e : Env} {s : State} {m : MethodId} {args : Array Value} {below : List Frame} {meth : Method} {c : Code} {Q : State → Prop} {dC : Nat → ClassId} {dI : Nat → Nat → Nat} {cs : Nat → ClassId} {a : Nat → Nat} {res : Int64} (C : CallFix p m c cX8_digest 4 s args wsX8_digest RX8) (G : GE dC dI cs s) (hR : RPl p l e ({ frames := 1, cells := 0, slots := 0, locals := 27 }) s m args below meth c cX8_digest Q res) {M : Ms} (hP : va_P (dC, dI) vwCl (wM cs a M) s.heap)  (_ : Ms) {K31 : Int64 → Option Int64} (hK31 : ∀ (x1 : Int64) (ls : Array Slot), lv_has ls 4 [(0, .ref (a 0)), (1, .long (x1))] → K31 x1 = some res → W p l e ({ frames := 1, cells := 0, slots := 0, locals := 27 }) s m args below meth c s.heap [] 0 0 Q (F0 m 31 ls [])) : ∀ (n : Nat) (x1 : Int64) (x3 : Int32) (ls : Array Slot), lv_has ls 4 [(0, .ref (a 0)), (1, .long (x1)), (3, .int (x3))] → l_X8_digest_6 M K31 n x1 x3 = some res → W p l e ({ frames := 1, cells := 0, slots := 0, locals := 27 }) s m args below meth c s.heap [] 0 0 Q (F0 m 6 ls []) := by
  intro n
  induction n with
  | zero => intro x1 x3 ls hl hf; exact absurd hf (by simp [l_X8_digest_6, itr])
  | succ n ih =>
    intro x1 x3 ls hl hf
    replace hf : f_X8_digest_6 x1 x3 M (fun x1 x3 => l_X8_digest_6 M K31 n x1 x3) K31 = some res := by rw [← hf]; unfold l_X8_digest_6; rw [itr_s]
    exact b_X8_digest_6 C G hR hP x1 x3 M (K6 := fun x1 x3 => l_X8_digest_6 M K31 n x1 x3) (fun x1 x3 ls hl hf => ih x1 x3 ls hl hf) hK31 ls hl hf
def f_X8_digest_31 (x1 : Int64) (M : Ms)  : Option Int64 :=
  gi ((3 : Int32)) 362 <|
  bn (f_X8_mixed x1 (8 : Int32) ((3 : Int32) * ((M.2.2 0) ((3 : Int32)).toNatClampNeg)) M) fun r43 =>
  gi ((4 : Int32)) 362 <|
  bn (f_X8_mixed r43 (26 : Int32) ((5 : Int32) * ((M.2.2 0) ((4 : Int32)).toNatClampNeg)) M) fun r59 =>
  gi ((5 : Int32)) 362 <|
  bn (f_X8_mixed r59 (66 : Int32) ((2 : Int32) * ((M.2.2 0) ((5 : Int32)).toNatClampNeg)) M) fun r75 =>
  some (((31 : Int64) * (((31 : Int64) * r75) + (M.2.1 0))) + (M.2.1 1))
set_option maxHeartbeats 4000000 in
set_option maxRecDepth 100000 in
theorem b_X8_digest_31 {p : Program} {l : Launch} {e : Env} {s : State} {m : MethodId} {args : Array Value} {below : List Frame} {meth : Method} {c : Code} {Q : State → Prop} {dC : Nat → ClassId} {dI : Nat → Nat → Nat} {cs : Nat → ClassId} {a : Nat → Nat} {res : Int64} (C : CallFix p m c cX8_digest 4 s args wsX8_digest RX8) (G : GE dC dI cs s) (hR : RPl p l e ({ frames := 1, cells := 0, slots := 0, locals := 27 }) s m args below meth c cX8_digest Q res) {M : Ms} (hP : va_P (dC, dI) vwCl (wM cs a M) s.heap) (x1 : Int64) (_ : Ms)   (ls : Array Slot) (hl : lv_has ls 4 [(0, .ref (a 0)), (1, .long (x1))]) (hf : f_X8_digest_31 x1 M = some res) : W p l e ({ frames := 1, cells := 0, slots := 0, locals := 27 }) s m args below meth c s.heap [] 0 0 Q (F0 m 31 ls []) := by
  obtain ⟨hx, hb, hml, hown, hts⟩ := id C
  obtain ⟨hK, hN⟩ := id G
  unfold f_X8_digest_31 at hf
  refine lv_aload_n hx hb dX8_digest_31 rfl (lv_at hl 0 rfl) ?_
  refine lv_lload_n hx hb dX8_digest_32 rfl (lv_at hl 1 rfl) ?_
  refine lv_bipush (v := 8) hx hb dX8_digest_33 (by decide) ?_
  refine lv_iconst (v := 3) hx hb dX8_digest_35 (by decide) ?_
  refine lv_aload_n hx hb dX8_digest_36 rfl (lv_at hl 0 rfl) ?_
  refine va_get (D := (dC, dI)) (ci := 8) (v := .ref (a 1)) (C := RX8) (T := TX8) (N := 20) hx hb hts in_X8_digest_X8 hown hK hP 0 rfl rfl 0 (by decide) (hts (.fieldLink RX8 7 "BackLoansModel" "now" "[I") (by decide +kernel)) (fun _ h9 => h9) rfl dX8_digest_37 ?_
  refine lv_iconst (v := 3) hx hb dX8_digest_40 (by decide) ?_
  obtain ⟨hi1, hf⟩ := gi_e hf
  refine va_iald hx hb hK hP 1 0 rfl rfl hi1 dX8_digest_41 ?_
  refine lv_imul hx hb dX8_digest_42 ?_
  obtain ⟨r43, hr43, hf⟩ := bn_e hf
  have hPc := hP.sub (ws' := (wM cs a M)) [0, 1, 2, 3, 4, 5, 6, 7, 8, 9, 10, 11] rfl
  refine vp_callSl (W.runV (As := [.long (x1), .int ((8 : Int32)), .int (((3 : Int32) * ((M.2.2 0) ((3 : Int32)).toNatClampNeg)))]) (rest := []) C (c_X8_mixed l dC dI cs a M x1 (8 : Int32) ((3 : Int32) * ((M.2.2 0) ((3 : Int32)).toNatClampNeg)) r43 hr43) (cwV 3 hts gX8_digest_X8_mixed rfl rfl rfl (by decide +kernel) ⟨Nat.le_of_ble_eq_true rfl, Nat.le_of_ble_eq_true rfl⟩) ⟨(fun a U g mk q => ⟨q.1, q.2.1, GE.calling q.2.2⟩), va_recv hK hPc (ci := 8) (q0 := 0) rfl rfl, (fun U hU hW => ⟨rfl, by rw [hU]; exact hPc, GE.warm hW G⟩)⟩ rfl rfl hl.1 rfl (lv_room (Nat.le_of_ble_eq_true rfl)) dX8_digest_43 ⟨Nat.le_of_ble_eq_true rfl, Nat.le_of_ble_eq_true rfl⟩) (fun qr43 hqr43 => ?_)
  obtain rfl := hqr43.symm
  refine lv_lstore_n (lv' := [(1, .long (r43)), (0, .ref (a 0))]) hx hb dX8_digest_46 rfl hl (by decide) rfl (fun ls hl => ?_)
  refine lv_aload_n hx hb dX8_digest_47 rfl (lv_at hl 1 rfl) ?_
  refine lv_lload_n hx hb dX8_digest_48 rfl (lv_at hl 0 rfl) ?_
  refine lv_bipush (v := 26) hx hb dX8_digest_49 (by decide) ?_
  refine lv_iconst (v := 5) hx hb dX8_digest_51 (by decide) ?_
  refine lv_aload_n hx hb dX8_digest_52 rfl (lv_at hl 1 rfl) ?_
  refine va_get (D := (dC, dI)) (ci := 8) (v := .ref (a 1)) (C := RX8) (T := TX8) (N := 20) hx hb hts in_X8_digest_X8 hown hK hP 0 rfl rfl 0 (by decide) (hts (.fieldLink RX8 7 "BackLoansModel" "now" "[I") (by decide +kernel)) (fun _ h9 => h9) rfl dX8_digest_53 ?_
  refine lv_iconst (v := 4) hx hb dX8_digest_56 (by decide) ?_
  obtain ⟨hi2, hf⟩ := gi_e hf
  refine va_iald hx hb hK hP 1 0 rfl rfl hi2 dX8_digest_57 ?_
  refine lv_imul hx hb dX8_digest_58 ?_
  obtain ⟨r59, hr59, hf⟩ := bn_e hf
  have hPc := hP.sub (ws' := (wM cs a M)) [0, 1, 2, 3, 4, 5, 6, 7, 8, 9, 10, 11] rfl
  refine vp_callSl (W.runV (As := [.long (r43), .int ((26 : Int32)), .int (((5 : Int32) * ((M.2.2 0) ((4 : Int32)).toNatClampNeg)))]) (rest := []) C (c_X8_mixed l dC dI cs a M r43 (26 : Int32) ((5 : Int32) * ((M.2.2 0) ((4 : Int32)).toNatClampNeg)) r59 hr59) (cwV 3 hts gX8_digest_X8_mixed rfl rfl rfl (by decide +kernel) ⟨Nat.le_of_ble_eq_true rfl, Nat.le_of_ble_eq_true rfl⟩) ⟨(fun a U g mk q => ⟨q.1, q.2.1, GE.calling q.2.2⟩), va_recv hK hPc (ci := 8) (q0 := 0) rfl rfl, (fun U hU hW => ⟨rfl, by rw [hU]; exact hPc, GE.warm hW G⟩)⟩ rfl rfl hl.1 rfl (lv_room (Nat.le_of_ble_eq_true rfl)) dX8_digest_59 ⟨Nat.le_of_ble_eq_true rfl, Nat.le_of_ble_eq_true rfl⟩) (fun qr59 hqr59 => ?_)
  obtain rfl := hqr59.symm
  refine lv_lstore_n (lv' := [(1, .long (r59)), (0, .ref (a 0))]) hx hb dX8_digest_62 rfl hl (by decide) rfl (fun ls hl => ?_)
  refine lv_aload_n hx hb dX8_digest_63 rfl (lv_at hl 1 rfl) ?_
  refine lv_lload_n hx hb dX8_digest_64 rfl (lv_at hl 0 rfl) ?_
  refine lv_bipush (v := 66) hx hb dX8_digest_65 (by decide) ?_
  refine lv_iconst (v := 2) hx hb dX8_digest_67 (by decide) ?_
  refine lv_aload_n hx hb dX8_digest_68 rfl (lv_at hl 1 rfl) ?_
  refine va_get (D := (dC, dI)) (ci := 8) (v := .ref (a 1)) (C := RX8) (T := TX8) (N := 20) hx hb hts in_X8_digest_X8 hown hK hP 0 rfl rfl 0 (by decide) (hts (.fieldLink RX8 7 "BackLoansModel" "now" "[I") (by decide +kernel)) (fun _ h9 => h9) rfl dX8_digest_69 ?_
  refine lv_iconst (v := 5) hx hb dX8_digest_72 (by decide) ?_
  obtain ⟨hi3, hf⟩ := gi_e hf
  refine va_iald hx hb hK hP 1 0 rfl rfl hi3 dX8_digest_73 ?_
  refine lv_imul hx hb dX8_digest_74 ?_
  obtain ⟨r75, hr75, hf⟩ := bn_e hf
  have hPc := hP.sub (ws' := (wM cs a M)) [0, 1, 2, 3, 4, 5, 6, 7, 8, 9, 10, 11] rfl
  refine vp_callSl (W.runV (As := [.long (r59), .int ((66 : Int32)), .int (((2 : Int32) * ((M.2.2 0) ((5 : Int32)).toNatClampNeg)))]) (rest := []) C (c_X8_mixed l dC dI cs a M r59 (66 : Int32) ((2 : Int32) * ((M.2.2 0) ((5 : Int32)).toNatClampNeg)) r75 hr75) (cwV 3 hts gX8_digest_X8_mixed rfl rfl rfl (by decide +kernel) ⟨Nat.le_of_ble_eq_true rfl, Nat.le_of_ble_eq_true rfl⟩) ⟨(fun a U g mk q => ⟨q.1, q.2.1, GE.calling q.2.2⟩), va_recv hK hPc (ci := 8) (q0 := 0) rfl rfl, (fun U hU hW => ⟨rfl, by rw [hU]; exact hPc, GE.warm hW G⟩)⟩ rfl rfl hl.1 rfl (lv_room (Nat.le_of_ble_eq_true rfl)) dX8_digest_75 ⟨Nat.le_of_ble_eq_true rfl, Nat.le_of_ble_eq_true rfl⟩) (fun qr75 hqr75 => ?_)
  obtain rfl := hqr75.symm
  refine lv_lstore_n (lv' := [(1, .long (r75)), (0, .ref (a 0))]) hx hb dX8_digest_78 rfl hl (by decide) rfl (fun ls hl => ?_)
  refine lv_ldc2 (v := 31) hx hb hown (hts (.constantLong RX8 247 (31)) (by decide +kernel)) dX8_digest_79 ?_
  refine lv_ldc2 (v := 31) hx hb hown (hts (.constantLong RX8 247 (31)) (by decide +kernel)) dX8_digest_82 ?_
  refine lv_lload_n hx hb dX8_digest_85 rfl (lv_at hl 0 rfl) ?_
  refine lv_lmul hx hb dX8_digest_86 ?_
  refine lv_aload_n hx hb dX8_digest_87 rfl (lv_at hl 1 rfl) ?_
  refine va_get (D := (dC, dI)) (ci := 8) (v := .long ((M.2.1 0))) (C := RX8) (T := TX8) (N := 20) hx hb hts in_X8_digest_X8 hown hK hP 0 rfl rfl 8 (by decide) (hts (.fieldLink RX8 221 "BackLoansModel" "above" "J") (by decide +kernel)) (fun _ h9 => h9) rfl dX8_digest_88 ?_
  refine lv_ladd hx hb dX8_digest_91 ?_
  refine lv_lmul hx hb dX8_digest_92 ?_
  refine lv_aload_n hx hb dX8_digest_93 rfl (lv_at hl 1 rfl) ?_
  refine va_get (D := (dC, dI)) (ci := 8) (v := .long ((M.2.1 1))) (C := RX8) (T := TX8) (N := 20) hx hb hts in_X8_digest_X8 hown hK hP 0 rfl rfl 9 (by decide) (hts (.fieldLink RX8 32 "BackLoansModel" "below" "J") (by decide +kernel)) (fun _ h9 => h9) rfl dX8_digest_94 ?_
  refine lv_ladd hx hb dX8_digest_97 ?_
  exact hR _ _ _ dX8_digest_98 hf
def f_X8_digest  (M : Ms) : Option Int64 :=
  lett (839 : Int64) fun x1_3 =>
  lett (0 : Int32) fun x3_5 =>
  l_X8_digest_6 M (fun x1 => f_X8_digest_31 x1 M) FU x1_3 x3_5
set_option maxHeartbeats 4000000 in
set_option maxRecDepth 100000 in
theorem c_X8_digest (l : Launch) (dC : Nat → ClassId) (dI : Nat → Nat → Nat) (cs : Nat → ClassId) (a : Nat → Nat) (M : Ms)  (res : Int64) (hf : f_X8_digest M = some res) : Met l yX8_digest wsX8_digest ({ frames := 1, cells := 0, slots := 0, locals := 27 }) (va_Pc [.ref (a 0)] (fun U => va_P (dC, dI) vwCl (wM cs a M) U.heap ∧ GE dC dI cs U)) (vp_Sl (fun r => r = res)) 0 0 (fun _ => False) := by
  refine Met.ofW (cc := cX8_digest) (maxL := 4) (ret := (some .long)) (by decide) rfl ?_
  intro p e s m args below meth c s₁ Bd hml hv
  obtain ⟨rfl, hP, G⟩ := hv
  have hts := atoms_spec (ws := wsX8_digest) Bd.pre
  have hown : s.vm.findClass RX8 = some m.cls := findClass_of_methodNamed Bd.named
  have hlocks := Bd.notSynchronized
  have hx := Bd.exec
  have hb := Bd.bytes
  have hr := Bd.returns
  have C : CallFix p m c cX8_digest 4 s _ wsX8_digest RX8 := ⟨hx, hb, hml, hown, hts⟩
  obtain ⟨hK, hN⟩ := id G
  have hR : RPl p l e ({ frames := 1, cells := 0, slots := 0, locals := 27 }) s m ([.ref (a 0)] : List Value).toArray below meth c cX8_digest (MQ below (vp_Sl (fun r => r = res)) ([.ref (a 0)] : List Value).toArray s 0 0 (fun _ => False)) res := fun pc ls r dd h => W.lret hx hb hr (fun t ht hW => ⟨r, rfl, Option.some.inj h, ht⟩) (fun q hq => by cases hq) dd
  have hl := lv_entry ([.ref (a 0)]) (n := 4) (Nat.le_of_ble_eq_true rfl)
  rw [lg_entry_eq]
  generalize (lg_sl ([.ref (a 0)]) ++ List.replicate (4 - (lg_sl ([.ref (a 0)])).length) Slot.unset).toArray = ls at hl ⊢
  have hl : lv_has ls 4 [(0, .ref (a 0))] := hl
  unfold f_X8_digest at hf
  refine lv_ldc2 (v := 839) hx hb hown (hts (.constantLong RX8 249 (839)) (by decide +kernel)) dX8_digest_0 ?_
  refine lv_topl (fun x1_3 ex1_3 => ?_)
  replace hf := lett_s ex1_3 hf
  refine lv_lstore_n (lv' := [(1, .long (x1_3)), (0, .ref (a 0))]) hx hb dX8_digest_3 rfl hl (by decide) rfl (fun ls hl => ?_)
  refine lv_iconst (v := 0) hx hb dX8_digest_4 (by decide) ?_
  refine lv_topi (fun x3_5 ex3_5 => ?_)
  replace hf := lett_s ex3_5 hf
  refine lv_istore_n (lv' := [(3, .int (x3_5)), (1, .long (x1_3)), (0, .ref (a 0))]) hx hb dX8_digest_5 rfl hl (by decide) rfl (fun ls hl => ?_)
  exact w_X8_digest_6 C G hR hP M (fun x1 ls hl hf => b_X8_digest_31 C G hR hP x1 M _ hl hf) FU x1_3 x3_5 _ (lv_sub hl [2, 1, 0] rfl) hf

