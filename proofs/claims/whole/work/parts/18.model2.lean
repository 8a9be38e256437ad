theorem in_X8_knows_X8 : ∀ w ∈ wsX80, w ∈ wsX8_knows := by decide +kernel
def f_X8_knows_15 (x1 : Int32) (M : Ms) (K15 : Int32 → Ms → Option Ms) (K43 : Ms → Option Ms) : Option Ms :=
  if (327 : Int32) ≤ x1 then (
    K43 M
  ) else (
    gi ((x1 + (35 : Int32))) 362 <|
    gi (x1) 362 <|
    lett ((M.1, M.2.1, va_up M.2.2 0 (upd (M.2.2 0) (x1).toNatClampNeg (((M.2.2 0) ((x1 + (35 : Int32))).toNatClampNeg))))) fun M_36 =>
    lett (x1 + 1) fun x1_37 =>
    K15 x1_37 M_36
  )
set_option maxHeartbeats 4000000 in
set_option maxRecDepth 100000 in
theorem b_X8_knows_15 {p : Program} {l : Launch} {e : Env} {s : State} {m : MethodId} {args : Array Value} {below : List Frame} {meth : Method} {c : Code} {Q : State → Prop} {dC : Nat → ClassId} {dI : Nat → Nat → Nat} {cs : Nat → ClassId} {A : Nat → Prop} {a : Nat → Nat} {res : Ms} (C : CallFix p m c cX8_knows 3 s args wsX8_knows RX8) (G : GE dC dI cs s) (hA : ∀ q : Nat, s.heap.size ≤ q → A q) (hR : RTv p l e ({ frames := 0, cells := 0, slots := 0, locals := 0 }) s m args below meth c cX8_knows Q (dC, dI) A (fun u : Ms => (wM cs a u)) res) (x1 : Int32) (M : Ms) {K15 : Int32 → Ms → Option Ms} {K43 : Ms → Option Ms} (hK15 : ∀ (x1 : Int32) (M : Ms) (H : Heap) (locs : List Loc) (ls : Array Slot), lv_has ls 3 [(0, .ref (a 0)), (1, .int (x1))] → va_P (dC, dI) vwCl (wM cs a M) H → va_D A (wM cs a M) → va_S A s.heap H locs → K15 x1 M = some res → W p l e ({ frames := 0, cells := 0, slots := 0, locals := 0 }) s m args below meth c H locs 0 0 Q (F0 m 15 ls [])) (hK43 : ∀ (M : Ms) (H : Heap) (locs : List Loc) (ls : Array Slot), lv_has ls 3 [(0, .ref (a 0))] → va_P (dC, dI) vwCl (wM cs a M) H → va_D A (wM cs a M) → va_S A s.heap H locs → K43 M = some res → W p l e ({ frames := 0, cells := 0, slots := 0, locals := 0 }) s m args below meth c H locs 0 0 Q (F0 m 43 ls [])) (H : Heap) (locs : List Loc) (ls : Array Slot) (hl : lv_has ls 3 [(0, .ref (a 0)), (1, .int (x1))]) (hP : va_P (dC, dI) vwCl (wM cs a M) H) (hD : va_D A (wM cs a M)) (hS : va_S A s.heap H locs) (hf : f_X8_knows_15 x1 M K15 K43 = some res) : W p l e ({ frames := 0, cells := 0, slots := 0, locals := 0 }) s m args below meth c H locs 0 0 Q (F0 m 15 ls []) := by
  obtain ⟨hx, hb, hml, hown, hts⟩ := id C
  obtain ⟨hK, hN⟩ := id G
  unfold f_X8_knows_15 at hf
  refine lv_iload_n hx hb dX8_knows_15 rfl (lv_at hl 1 rfl) ?_
  refine lv_sipush (v := 327) hx hb dX8_knows_16 (by decide) ?_
  refine lv_icmp_ge (tgt := 43) hx hb dX8_knows_19 (by decide) (fun c1 => ?_) (fun c1 => ?_)
  · replace hf := it_t c1 hf
    exact hK43 M _ _ _ (lv_sub hl [0] rfl) hP hD hS hf
  · replace hf := it_f c1 hf
    refine lv_aload_n hx hb dX8_knows_22 rfl (lv_at hl 0 rfl) ?_
    refine va_get (D := (dC, dI)) (ci := 8) (v := .ref (a 1)) (C := RX8) (T := TX8) (N := 20) hx hb hts in_X8_knows_X8 hown hK hP 0 rfl rfl 0 (by decide) (hts (.fieldLink RX8 7 "BackLoansModel" "now" "[I") (by decide +kernel)) (fun _ h9 => h9) rfl dX8_knows_23 ?_
    refine lv_iload_n hx hb dX8_knows_26 rfl (lv_at hl 1 rfl) ?_
    refine lv_aload_n hx hb dX8_knows_27 rfl (lv_at hl 0 rfl) ?_
    refine va_get (D := (dC, dI)) (ci := 8) (v := .ref (a 1)) (C := RX8) (T := TX8) (N := 20) hx hb hts in_X8_knows_X8 hown hK hP 0 rfl rfl 0 (by decide) (hts (.fieldLink RX8 7 "BackLoansModel" "now" "[I") (by decide +kernel)) (fun _ h9 => h9) rfl dX8_knows_28 ?_
    refine lv_iload_n hx hb dX8_knows_31 rfl (lv_at hl 1 rfl) ?_
    refine lv_bipush (v := 35) hx hb dX8_knows_32 (by decide) ?_
    refine lv_iadd hx hb dX8_knows_34 ?_
    obtain ⟨hi2, hf⟩ := gi_e hf
    refine va_iald hx hb hK hP 1 0 rfl rfl hi2 dX8_knows_35 ?_
    obtain ⟨hi3, hf⟩ := gi_e hf
    refine va_iast hx hb hK hP hD hS 1 0 rfl rfl hi3 dX8_knows_36 (fun H locs hP hD hS => ?_)
    obtain ⟨M_36, hP, hD, hf⟩ := st_nm (ws := fun M_36 : Ms => (wM cs a M_36)) ((M.1, M.2.1, va_up M.2.2 0 (upd (M.2.2 0) (x1).toNatClampNeg (((M.2.2 0) ((x1 + (35 : Int32))).toNatClampNeg))))) hP hD hf
    obtain ⟨x1_37, ex1_37⟩ : ∃ y : Int32, y = (x1 + 1) := ⟨_, rfl⟩
    replace hf := lett_s ex1_37 hf
    refine lv_iinc (v := x1_37) (lv' := [(1, .int (x1_37)), (0, .ref (a 0))]) hx hb dX8_knows_37 hl (k := 1) rfl (by rw [ex1_37]; rfl) (by decide) rfl (fun ls hl => ?_)
    refine lv_goto (tgt := 15) hx hb dX8_knows_40 (by decide) ?_
    exact hK15 x1_37 M_36 _ _ _ (lv_sub hl [1, 0] rfl) hP hD hS hf
def l_X8_knows_15  (K43 : Ms → Option Ms) (n : Nat) (x1 : Int32) (M : Ms) : Option Ms := itr (fun (k : Int32 × Ms → Option Ms) (z : Int32 × Ms) => f_X8_knows_15 z.1 z.2 (fun x1 M => k (x1, M)) K43) n (x1, M)
set_option maxHeartbeats 4000000 in
set_option maxRecDepth 100000 in
theorem w_X8_knows_15 {p : Program} {l : Launch} {e : Env} {s : State} {m : MethodId} {args : Array Value} {below : List Frame} {meth : Method} {c : Code} {Q : State → Prop} {dC : Nat → ClassId} {dI : Nat → Nat → Nat} {cs : Nat → ClassId} {A : Nat → Prop} {a : Nat → Nat} {res : Ms} (C : CallFix p m c cX8_knows 3 s args wsX8_knows RX8) (G : GE dC dI cs s) (hA : ∀ q : Nat, s.heap.size ≤ q → A q) (hR : RTv p l e ({ frames := 0, cells := 0, slots := 0, locals := 0 }) s m args below meth c cX8_knows Q (dC, dI) A (fun u : Ms => (wM cs a u)) res)  {K43 : Ms → Option Ms} (hK43 : ∀ (M : Ms) (H : Heap) (locs : List Loc) (ls : Array Slot), lv_has ls 3 [(0, .ref (a 0))] → va_P (dC, dI) vwCl (wM cs a M) H → va_D A (wM cs a M) → va_S A s.heap H locs → K43 M = some res → W p l e ({ frames := 0, cells := 0, slots := 0, locals := 0 }) s m args below meth c H locs 0 0 Q (F0 m 43 ls [])) : ∀ (n : Nat) (x1 : Int32) (M : Ms) (H : Heap) (locs : List Loc) (ls : Array Slot), lv_has ls 3 [(0, .ref (a 0)), (1, .int (x1))] → va_P (dC, dI) vwCl (wM cs a M) H → va_D A (wM cs a M) → va_S A s.heap H locs → l_X8_knows_15 K43 n x1 M = some res → W p l e ({ frames := 0, cells := 0, slots := 0, locals := 0 }) s m args below meth c H locs 0 0 Q (F0 m 15 ls []) := by
  intro n
  induction n with
  | zero => intro x1 M H locs ls hl hP hD hS hf; exact absurd hf (by simp [l_X8_knows_15, itr])
  | succ n ih => intro x1 M H locs ls hl hP hD hS hf; exact b_X8_knows_15 C G hA hR x1 M (K15 := fun x1 M => l_X8_knows_15 K43 n x1 M) (fun x1 M H locs ls hl hP hD hS hf => ih x1 M H locs ls hl hP hD hS hf) hK43 H locs ls hl hP hD hS hf
def f_X8_knows_139 (x1 : Int32) (x2 : Int32) (M : Ms) (K139 : Int32 → Ms → Option Ms) (K174 : Ms → Option Ms) : Option Ms :=
  if (6 : Int32) ≤ x2 then (
    K174 M
  ) else (
    gi ((((8 : Int32) + ((3 : Int32) * x2)) + (2 : Int32))) 362 <|
    gi (((x1 + (5 : Int32)) + x2)) 362 <|
    lett ((M.1, M.2.1, va_up M.2.2 0 (upd (M.2.2 0) (((x1 + (5 : Int32)) + x2)).toNatClampNeg (((M.2.2 0) ((((8 : Int32) + ((3 : Int32) * x2)) + (2 : Int32))).toNatClampNeg))))) fun M_167 =>
    lett (x2 + 1) fun x2_168 =>
    K139 x2_168 M_167
  )
set_option maxHeartbeats 4000000 in
set_option maxRecDepth 100000 in
theorem b_X8_knows_139 {p : Program} {l : Launch} {e : Env} {s : State} {m : MethodId} {args : Array Value} {below : List Frame} {meth : Method} {c : Code} {Q : State → Prop} {dC : Nat → ClassId} {dI : Nat → Nat → Nat} {cs : Nat → ClassId} {A : Nat → Prop} {a : Nat → Nat} {res : Ms} (C : CallFix p m c cX8_knows 3 s args wsX8_knows RX8) (G : GE dC dI cs s) (hA : ∀ q : Nat, s.heap.size ≤ q → A q) (hR : RTv p l e ({ frames := 0, cells := 0, slots := 0, locals := 0 }) s m args below meth c cX8_knows Q (dC, dI) A (fun u : Ms => (wM cs a u)) res) (x1 : Int32) (x2 : Int32) (M : Ms) {K139 : Int32 → Ms → Option Ms} {K174 : Ms → Option Ms} (hK139 : ∀ (x2 : Int32) (M : Ms) (H : Heap) (locs : List Loc) (ls : Array Slot), lv_has ls 3 [(0, .ref (a 0)), (1, .int (x1)), (2, .int (x2))] → va_P (dC, dI) vwCl (wM cs a M) H → va_D A (wM cs a M) → va_S A s.heap H locs → K139 x2 M = some res → W p l e ({ frames := 0, cells := 0, slots := 0, locals := 0 }) s m args below meth c H locs 0 0 Q (F0 m 139 ls [])) (hK174 : ∀ (M : Ms) (H : Heap) (locs : List Loc) (ls : Array Slot), lv_has ls 3 [(0, .ref (a 0)), (1, .int (x1))] → va_P (dC, dI) vwCl (wM cs a M) H → va_D A (wM cs a M) → va_S A s.heap H locs → K174 M = some res → W p l e ({ frames := 0, cells := 0, slots := 0, locals := 0 }) s m args below meth c H locs 0 0 Q (F0 m 174 ls [])) (H : Heap) (locs : List Loc) (ls : Array Slot) (hl : lv_has ls 3 [(0, .ref (a 0)), (1, .int (x1)), (2, .int (x2))]) (hP : va_P (dC, dI) vwCl (wM cs a M) H) (hD : va_D A (wM cs a M)) (hS : va_S A s.heap H locs) (hf : f_X8_knows_139 x1 x2 M K139 K174 = some res) : W p l e ({ frames := 0, cells := 0, slots := 0, locals := 0 }) s m args below meth c H locs 0 0 Q (F0 m 139 ls []) := by
  obtain ⟨hx, hb, hml, hown, hts⟩ := id C
  obtain ⟨hK, hN⟩ := id G
  unfold f_X8_knows_139 at hf
  refine lv_iload_n hx hb dX8_knows_139 rfl (lv_at hl 2 rfl) ?_
  refine lv_bipush (v := 6) hx hb dX8_knows_140 (by decide) ?_
  refine lv_icmp_ge (tgt := 174) hx hb dX8_knows_142 (by decide) (fun c1 => ?_) (fun c1 => ?_)
  · replace hf := it_t c1 hf
    exact hK174 M _ _ _ (lv_sub hl [0, 1] rfl) hP hD hS hf
  · replace hf := it_f c1 hf
    refine lv_aload_n hx hb dX8_knows_145 rfl (lv_at hl 0 rfl) ?_
    refine va_get (D := (dC, dI)) (ci := 8) (v := .ref (a 1)) (C := RX8) (T := TX8) (N := 20) hx hb hts in_X8_knows_X8 hown hK hP 0 rfl rfl 0 (by decide) (hts (.fieldLink RX8 7 "BackLoansModel" "now" "[I") (by decide +kernel)) (fun _ h9 => h9) rfl dX8_knows_146 ?_
    refine lv_iload_n hx hb dX8_knows_149 rfl (lv_at hl 1 rfl) ?_
    refine lv_iconst (v := 5) hx hb dX8_knows_150 (by decide) ?_
    refine lv_iadd hx hb dX8_knows_151 ?_
    refine lv_iload_n hx hb dX8_knows_152 rfl (lv_at hl 2 rfl) ?_
    refine lv_iadd hx hb dX8_knows_153 ?_
    refine lv_aload_n hx hb dX8_knows_154 rfl (lv_at hl 0 rfl) ?_
    refine va_get (D := (dC, dI)) (ci := 8) (v := .ref (a 1)) (C := RX8) (T := TX8) (N := 20) hx hb hts in_X8_knows_X8 hown hK hP 0 rfl rfl 0 (by decide) (hts (.fieldLink RX8 7 "BackLoansModel" "now" "[I") (by decide +kernel)) (fun _ h9 => h9) rfl dX8_knows_155 ?_
    refine lv_bipush (v := 8) hx hb dX8_knows_158 (by decide) ?_
    refine lv_iconst (v := 3) hx hb dX8_knows_160 (by decide) ?_
    refine lv_iload_n hx hb dX8_knows_161 rfl (lv_at hl 2 rfl) ?_
    refine lv_imul hx hb dX8_knows_162 ?_
    refine lv_iadd hx hb dX8_knows_163 ?_
    refine lv_iconst (v := 2) hx hb dX8_knows_164 (by decide) ?_
    refine lv_iadd hx hb dX8_knows_165 ?_
    obtain ⟨hi2, hf⟩ := gi_e hf
    refine va_iald hx hb hK hP 1 0 rfl rfl hi2 dX8_knows_166 ?_
    obtain ⟨hi3, hf⟩ := gi_e hf
    refine va_iast hx hb hK hP hD hS 1 0 rfl rfl hi3 dX8_knows_167 (fun H locs hP hD hS => ?_)
    obtain ⟨M_167, hP, hD, hf⟩ := st_nm (ws := fun M_167 : Ms => (wM cs a M_167)) ((M.1, M.2.1, va_up M.2.2 0 (upd (M.2.2 0) (((x1 + (5 : Int32)) + x2)).toNatClampNeg (((M.2.2 0) ((((8 : Int32) + ((3 : Int32) * x2)) + (2 : Int32))).toNatClampNeg))))) hP hD hf
    obtain ⟨x2_168, ex2_168⟩ : ∃ y : Int32, y = (x2 + 1) := ⟨_, rfl⟩
    replace hf := lett_s ex2_168 hf
    refine lv_iinc (v := x2_168) (lv' := [(2, .int (x2_168)), (0, .ref (a 0)), (1, .int (x1))]) hx hb dX8_knows_168 hl (k := 2) rfl (by rw [ex2_168]; rfl) (by decide) rfl (fun ls hl => ?_)
    refine lv_goto (tgt := 139) hx hb dX8_knows_171 (by decide) ?_
    exact hK139 x2_168 M_167 _ _ _ (lv_sub hl [1, 2, 0] rfl) hP hD hS hf
def l_X8_knows_139 (x1 : Int32) (K174 : Ms → Option Ms) (n : Nat) (x2 : Int32) (M : Ms) : Option Ms := itr (fun (k : Int32 × Ms → Option Ms) (z : Int32 × Ms) => f_X8_knows_139 x1 z.1 z.2 (fun x2 M => k (x2, M)) K174) n (x2, M)
set_option maxHeartbeats 4000000 in
set_option maxRecDepth 100000 in
theorem w_X8_knows_139 {p : Program} {l : Launch} {e : Env} {s : State} {m : MethodId} {args : Array Value} {below : List Frame} {meth : Method} {c : Code} {Q : State → Prop} {dC : Nat → ClassId} {dI : Nat → Nat → Nat} {cs : Nat → ClassId} {A : Nat → Prop} {a : Nat → Nat} {res : Ms} (C : CallFix p m c cX8_knows 3 s args wsX8_knows RX8) (G : GE dC dI cs s) (hA : ∀ q : Nat, s.heap.size ≤ q → A q) (hR : RTv p l e ({ frames := 0, cells := 0, slots := 0, locals := 0 }) s m args below meth c cX8_knows Q (dC, dI) A (fun u : Ms => (wM cs a u)) res) (x1 : Int32) {K174 : Ms → Option Ms} (hK174 : ∀ (M : Ms) (H : Heap) (locs : List Loc) (ls : Array Slot), lv_has ls 3 [(0, .ref (a 0)), (1, .int (x1))] → va_P (dC, dI) vwCl (wM cs a M) H → va_D A (wM cs a M) → va_S A s.heap H locs → K174 M = some res → W p l e ({ frames := 0, cells := 0, slots := 0, locals := 0 }) s m args below meth c H locs 0 0 Q (F0 m 174 ls [])) : ∀ (n : Nat) (x2 : Int32) (M : Ms) (H : Heap) (locs : List Loc) (ls : Array Slot), lv_has ls 3 [(0, .ref (a 0)), (1, .int (x1)), (2, .int (x2))] → va_P (dC, dI) vwCl (wM cs a M) H → va_D A (wM cs a M) → va_S A s.heap H locs → l_X8_knows_139 x1 K174 n x2 M = some res → W p l e ({ frames := 0, cells := 0, slots := 0, locals := 0 }) s m args below meth c H locs 0 0 Q (F0 m 139 ls []) := by
  intro n
  induction n with
  | zero => intro x2 M H locs ls hl hP hD hS hf; exact absurd hf (by simp [l_X8_knows_139, itr])
  | succ n ih => intro x2 M H locs ls hl hP hD hS hf; exact b_X8_knows_139 C G hA hR x1 x2 M (K139 := fun x2 M => l_X8_knows_139 x1 K174 n x2 M) (fun x2 M H locs ls hl hP hD hS hf => ih x2 M H locs ls hl hP hD hS hf) hK174 H locs ls hl hP hD hS hf
def f_X8_knows_176 (x1 : Int32) (x2 : Int32) (M : Ms) (K176 : Int32 → Ms → Option Ms) (K264 : Ms → Option Ms) : Option Ms :=
  if (8 : Int32) ≤ x2 then (
    K264 M
  ) else (
    gi (((26 : Int32) + ((5 : Int32) * x2))) 362 <|
    gi (((x1 + (11 : Int32)) + ((3 : Int32) * x2))) 362 <|
    lett ((M.1, M.2.1, va_up M.2.2 0 (upd (M.2.2 0) (((x1 + (11 : Int32)) + ((3 : Int32) * x2))).toNatClampNeg (((M.2.2 0) (((26 : Int32) + ((5 : Int32) * x2))).toNatClampNeg))))) fun M_205 =>
    gi ((((26 : Int32) + ((5 : Int32) * x2)) + (3 : Int32))) 362 <|
    gi (((x1 + (12 : Int32)) + ((3 : Int32) * x2))) 362 <|
    lett ((M_205.1, M_205.2.1, va_up M_205.2.2 0 (upd (M_205.2.2 0) (((x1 + (12 : Int32)) + ((3 : Int32) * x2))).toNatClampNeg (((M_205.2.2 0) ((((26 : Int32) + ((5 : Int32) * x2)) + (3 : Int32))).toNatClampNeg))))) fun M_231 =>
    gi ((((26 : Int32) + ((5 : Int32) * x2)) + (4 : Int32))) 362 <|
    gi (((x1 + (13 : Int32)) + ((3 : Int32) * x2))) 362 <|
    lett ((M_231.1, M_231.2.1, va_up M_231.2.2 0 (upd (M_231.2.2 0) (((x1 + (13 : Int32)) + ((3 : Int32) * x2))).toNatClampNeg (((M_231.2.2 0) ((((26 : Int32) + ((5 : Int32) * x2)) + (4 : Int32))).toNatClampNeg))))) fun M_257 =>
    lett (x2 + 1) fun x2_258 =>
    K176 x2_258 M_257
  )
set_option maxHeartbeats 4000000 in
set_option maxRecDepth 100000 in
theorem b_X8_knows_176 {p : Program} {l : Launch} {e : Env} {s : State} {m : MethodId} {args : Array Value} {below : List Frame} {meth : Method} {c : Code} {Q : State → Prop} {dC : Nat → ClassId} {dI : Nat → Nat → Nat} {cs : Nat → ClassId} {A : Nat → Prop} {a : Nat → Nat} {res : Ms} (C : CallFix p m c cX8_knows 3 s args wsX8_knows RX8) (G : GE dC dI cs s) (hA : ∀ q : Nat, s.heap.size ≤ q → A q) (hR : RTv p l e ({ frames := 0, cells := 0, slots := 0, locals := 0 }) s m args below meth c cX8_knows Q (dC, dI) A (fun u : Ms => (wM cs a u)) res) (x1 : Int32) (x2 : Int32) (M : Ms) {K176 : Int32 → Ms → Option Ms} {K264 : Ms → Option Ms} (hK176 : ∀ (x2 : Int32) (M : Ms) (H : Heap) (locs : List Loc) (ls : Array Slot), lv_has ls 3 [(0, .ref (a 0)), (1, .int (x1)), (2, .int (x2))] → va_P (dC, dI) vwCl (wM cs a M) H → va_D A (wM cs a M) → va_S A s.heap H locs → K176 x2 M = some res → W p l e ({ frames := 0, cells := 0, slots := 0, locals := 0 }) s m args below meth c H locs 0 0 Q (F0 m 176 ls [])) (hK264 : ∀ (M : Ms) (H : Heap) (locs : List Loc) (ls : Array Slot), lv_has ls 3 [(0, .ref (a 0))] → va_P (dC, dI) vwCl (wM cs a M) H → va_D A (wM cs a M) → va_S A s.heap H locs → K264 M = some res → W p l e ({ frames := 0, cells := 0, slots := 0, locals := 0 }) s m args below meth c H locs 0 0 Q (F0 m 264 ls [])) (H : Heap) (locs : List Loc) (ls : Array Slot) (hl : lv_has ls 3 [(0, .ref (a 0)), (1, .int (x1)), (2, .int (x2))]) (hP : va_P (dC, dI) vwCl (wM cs a M) H) (hD : va_D A (wM cs a M)) (hS : va_S A s.heap H locs) (hf : f_X8_knows_176 x1 x2 M K176 K264 = some res) : W p l e ({ frames := 0, cells := 0, slots := 0, locals := 0 }) s m args below meth c H locs 0 0 Q (F0 m 176 ls []) := by
  obtain ⟨hx, hb, hml, hown, hts⟩ := id C
  obtain ⟨hK, hN⟩ := id G
  unfold f_X8_knows_176 at hf
  refine lv_iload_n hx hb dX8_knows_176 rfl (lv_at hl 2 rfl) ?_
  refine lv_bipush (v := 8) hx hb dX8_knows_177 (by decide) ?_
  refine lv_icmp_ge (tgt := 264) hx hb dX8_knows_179 (by decide) (fun c1 => ?_) (fun c1 => ?_)
  · replace hf := it_t c1 hf
    exact hK264 M _ _ _ (lv_sub hl [0] rfl) hP hD hS hf
  · replace hf := it_f c1 hf
    refine lv_aload_n hx hb dX8_knows_182 rfl (lv_at hl 0 rfl) ?_
    refine va_get (D := (dC, dI)) (ci := 8) (v := .ref (a 1)) (C := RX8) (T := TX8) (N := 20) hx hb hts in_X8_knows_X8 hown hK hP 0 rfl rfl 0 (by decide) (hts (.fieldLink RX8 7 "BackLoansModel" "now" "[I") (by decide +kernel)) (fun _ h9 => h9) rfl dX8_knows_183 ?_
    refine lv_iload_n hx hb dX8_knows_186 rfl (lv_at hl 1 rfl) ?_
    refine lv_bipush (v := 11) hx hb dX8_knows_187 (by decide) ?_
    refine lv_iadd hx hb dX8_knows_189 ?_
    refine lv_iconst (v := 3) hx hb dX8_knows_190 (by decide) ?_
    refine lv_iload_n hx hb dX8_knows_191 rfl (lv_at hl 2 rfl) ?_
    refine lv_imul hx hb dX8_knows_192 ?_
    refine lv_iadd hx hb dX8_knows_193 ?_
    refine lv_aload_n hx hb dX8_knows_194 rfl (lv_at hl 0 rfl) ?_
    refine va_get (D := (dC, dI)) (ci := 8) (v := .ref (a 1)) (C := RX8) (T := TX8) (N := 20) hx hb hts in_X8_knows_X8 hown hK hP 0 rfl rfl 0 (by decide) (hts (.fieldLink RX8 7 "BackLoansModel" "now" "[I") (by decide +kernel)) (fun _ h9 => h9) rfl dX8_knows_195 ?_
    refine lv_bipush (v := 26) hx hb dX8_knows_198 (by decide) ?_
    refine lv_iconst (v := 5) hx hb dX8_knows_200 (by decide) ?_
    refine lv_iload_n hx hb dX8_knows_201 rfl (lv_at hl 2 rfl) ?_
    refine lv_imul hx hb dX8_knows_202 ?_
    refine lv_iadd hx hb dX8_knows_203 ?_
    obtain ⟨hi2, hf⟩ := gi_e hf
    refine va_iald hx hb hK hP 1 0 rfl rfl hi2 dX8_knows_204 ?_
    obtain ⟨hi3, hf⟩ := gi_e hf
    refine va_iast hx hb hK hP hD hS 1 0 rfl rfl hi3 dX8_knows_205 (fun H locs hP hD hS => ?_)
    obtain ⟨M_205, hP, hD, hf⟩ := st_nm (ws := fun M_205 : Ms => (wM cs a M_205)) ((M.1, M.2.1, va_up M.2.2 0 (upd (M.2.2 0) (((x1 + (11 : Int32)) + ((3 : Int32) * x2))).toNatClampNeg (((M.2.2 0) (((26 : Int32) + ((5 : Int32) * x2))).toNatClampNeg))))) hP hD hf
    refine lv_aload_n hx hb dX8_knows_206 rfl (lv_at hl 0 rfl) ?_
    refine va_get (D := (dC, dI)) (ci := 8) (v := .ref (a 1)) (C := RX8) (T := TX8) (N := 20) hx hb hts in_X8_knows_X8 hown hK hP 0 rfl rfl 0 (by decide) (hts (.fieldLink RX8 7 "BackLoansModel" "now" "[I") (by decide +kernel)) (fun _ h9 => h9) rfl dX8_knows_207 ?_
    refine lv_iload_n hx hb dX8_knows_210 rfl (lv_at hl 1 rfl) ?_
    refine lv_bipush (v := 12) hx hb dX8_knows_211 (by decide) ?_
    refine lv_iadd hx hb dX8_knows_213 ?_
    refine lv_iconst (v := 3) hx hb dX8_knows_214 (by decide) ?_
    refine lv_iload_n hx hb dX8_knows_215 rfl (lv_at hl 2 rfl) ?_
    refine lv_imul hx hb dX8_knows_216 ?_
    refine lv_iadd hx hb dX8_knows_217 ?_
    refine lv_aload_n hx hb dX8_knows_218 rfl (lv_at hl 0 rfl) ?_
    refine va_get (D := (dC, dI)) (ci := 8) (v := .ref (a 1)) (C := RX8) (T := TX8) (N := 20) hx hb hts in_X8_knows_X8 hown hK hP 0 rfl rfl 0 (by decide) (hts (.fieldLink RX8 7 "BackLoansModel" "now" "[I") (by decide +kernel)) (fun _ h9 => h9) rfl dX8_knows_219 ?_
    refine lv_bipush (v := 26) hx hb dX8_knows_222 (by decide) ?_
    refine lv_iconst (v := 5) hx hb dX8_knows_224 (by decide) ?_
    refine lv_iload_n hx hb dX8_knows_225 rfl (lv_at hl 2 rfl) ?_
    refine lv_imul hx hb dX8_knows_226 ?_
    refine lv_iadd hx hb dX8_knows_227 ?_
    refine lv_iconst (v := 3) hx hb dX8_knows_228 (by decide) ?_
    refine lv_iadd hx hb dX8_knows_229 ?_
    obtain ⟨hi4, hf⟩ := gi_e hf
    refine va_iald hx hb hK hP 1 0 rfl rfl hi4 dX8_knows_230 ?_
    obtain ⟨hi5, hf⟩ := gi_e hf
    refine va_iast hx hb hK hP hD hS 1 0 rfl rfl hi5 dX8_knows_231 (fun H locs hP hD hS => ?_)
    obtain ⟨M_231, hP, hD, hf⟩ := st_nm (ws := fun M_231 : Ms => (wM cs a M_231)) ((M_205.1, M_205.2.1, va_up M_205.2.2 0 (upd (M_205.2.2 0) (((x1 + (12 : Int32)) + ((3 : Int32) * x2))).toNatClampNeg (((M_205.2.2 0) ((((26 : Int32) + ((5 : Int32) * x2)) + (3 : Int32))).toNatClampNeg))))) hP hD hf
    refine lv_aload_n hx hb dX8_knows_232 rfl (lv_at hl 0 rfl) ?_
    refine va_get (D := (dC, dI)) (ci := 8) (v := .ref (a 1)) (C := RX8) (T := TX8) (N := 20) hx hb hts in_X8_knows_X8 hown hK hP 0 rfl rfl 0 (by decide) (hts (.fieldLink RX8 7 "BackLoansModel" "now" "[I") (by decide +kernel)) (fun _ h9 => h9) rfl dX8_knows_233 ?_
    refine lv_iload_n hx hb dX8_knows_236 rfl (lv_at hl 1 rfl) ?_
    refine lv_bipush (v := 13) hx hb dX8_knows_237 (by decide) ?_
    refine lv_iadd hx hb dX8_knows_239 ?_
    refine lv_iconst (v := 3) hx hb dX8_knows_240 (by decide) ?_
    refine lv_iload_n hx hb dX8_knows_241 rfl (lv_at hl 2 rfl) ?_
    refine lv_imul hx hb dX8_knows_242 ?_
    refine lv_iadd hx hb dX8_knows_243 ?_
    refine lv_aload_n hx hb dX8_knows_244 rfl (lv_at hl 0 rfl) ?_
    refine va_get (D := (dC, dI)) (ci := 8) (v := .ref (a 1)) (C := RX8) (T := TX8) (N := 20) hx hb hts in_X8_knows_X8 hown hK hP 0 rfl rfl 0 (by decide) (hts (.fieldLink RX8 7 "BackLoansModel" "now" "[I") (by decide +kernel)) (fun _ h9 => h9) rfl dX8_knows_245 ?_
    refine lv_bipush (v := 26) hx hb dX8_knows_248 (by decide) ?_
    refine lv_iconst (v := 5) hx hb dX8_knows_250 (by decide) ?_
    refine lv_iload_n hx hb dX8_knows_251 rfl (lv_at hl 2 rfl) ?_
    refine lv_imul hx hb dX8_knows_252 ?_
    refine lv_iadd hx hb dX8_knows_253 ?_
    refine lv_iconst (v := 4) hx hb dX8_knows_254 (by decide) ?_
    refine lv_iadd hx hb dX8_knows_255 ?_
    obtain ⟨hi6, hf⟩ := gi_e hf
    refine va_iald hx hb hK hP 1 0 rfl rfl hi6 dX8_knows_256 ?_
    obtain ⟨hi7, hf⟩ := gi_e hf
    refine va_iast hx hb hK hP hD hS 1 0 rfl rfl hi7 dX8_knows_257 (fun H locs hP hD hS => ?_)
    obtain ⟨M_257, hP, hD, hf⟩ := st_nm (ws := fun M_257 : Ms => (wM cs a M_257)) ((M_231.1, M_231.2.1, va_up M_231.2.2 0 (upd (M_231.2.2 0) (((x1 + (13 : Int32)) + ((3 : Int32) * x2))).toNatClampNeg (((M_231.2.2 0) ((((26 : Int32) + ((5 : Int32) * x2)) + (4 : Int32))).toNatClampNeg))))) hP hD hf
    obtain ⟨x2_258, ex2_258⟩ : ∃ y : Int32, y = (x2 + 1) := ⟨_, rfl⟩
    replace hf := lett_s ex2_258 hf
    refine lv_iinc (v := x2_258) (lv' := [(2, .int (x2_258)), (0, .ref (a 0)), (1, .int (x1))]) hx hb dX8_knows_258 hl (k := 2) rfl (by rw [ex2_258]; rfl) (by decide) rfl (fun ls hl => ?_)
    refine lv_goto (tgt := 176) hx hb dX8_knows_261 (by decide) ?_
    exact hK176 x2_258 M_257 _ _ _ (lv_sub hl [1, 2, 0] rfl) hP hD hS hf
def l_X8_knows_176 (x1 : Int32) (K264 : Ms → Option Ms) (n : Nat) (x2 : Int32) (M : Ms) : Option Ms := itr (fun (k : Int32 × Ms → Option Ms) (z : Int32 × Ms) => f_X8_knows_176 x1 z.1 z.2 (fun x2 M => k (x2, M)) K264) n (x2, M)
set_option maxHeartbeats 4000000 in
set_option maxRecDepth 100000 in
theorem w_X8_knows_176 {p : Program} {l : Launch} {e : Env} {s : State} {m : MethodId} {args : Array Value} {below : List Frame} {meth : Method} {c : Code} {Q : State → Prop} {dC : Nat → ClassId} {dI : Nat → Nat → Nat} {cs : Nat → ClassId} {A : Nat → Prop} {a : Nat → Nat} {res : Ms} (C : CallFix p m c cX8_knows 3 s args wsX8_knows RX8) (G : GE dC dI cs s) (hA : ∀ q : Nat, s.heap.size ≤ q → A q) (hR : RTv p l e ({ frames := 0, cells := 0, slots := 0, locals := 0 }) s m args below meth c cX8_knows Q (dC, dI) A (fun u : Ms => (wM cs a u)) res) (x1 : Int32) {K264 : Ms → Option Ms} (hK264 : ∀ (M : Ms) (H : Heap) (locs : List Loc) (ls : Array Slot), lv_has ls 3 [(0, .ref (a 0))] → va_P (dC, dI) vwCl (wM cs a M) H → va_D A (wM cs a M) → va_S A s.heap H locs → K264 M = some res → W p l e ({ frames := 0, cells := 0, slots := 0, locals := 0 }) s m args below meth c H locs 0 0 Q (F0 m 264 ls [])) : ∀ (n : Nat) (x2 : Int32) (M : Ms) (H : Heap) (locs : List Loc) (ls : Array Slot), lv_has ls 3 [(0, .ref (a 0)), (1, .int (x1)), (2, .int (x2))] → va_P (dC, dI) vwCl (wM cs a M) H → va_D A (wM cs a M) → va_S A s.heap H locs → l_X8_knows_176 x1 K264 n x2 M = some res → W p l e ({ frames := 0, cells := 0, slots := 0, locals := 0 }) s m args below meth c H locs 0 0 Q (F0 m 176 ls []) := by
  intro n
  induction n with
  | zero => intro x2 M H locs ls hl hP hD hS hf; exact absurd hf (by simp [l_X8_knows_176, itr])
  | succ n ih => intro x2 M H locs ls hl hP hD hS hf; exact b_X8_knows_176 C G hA hR x1 x2 M (K176 := fun x2 M => l_X8_knows_176 x1 K264 n x2 M) (fun x2 M H locs ls hl hP hD hS hf => ih x2 M H locs ls hl hP hD hS hf) hK264 H locs ls hl hP hD hS hf
def f_X8_knows_264 (M : Ms)  : Option Ms :=
  gi ((7 : Int32)) 362 <|
  gi ((7 : Int32)) 362 <|
  lett ((M.1, M.2.1, va_up M.2.2 0 (upd (M.2.2 0) ((7 : Int32)).toNatClampNeg ((((M.2.2 0) ((7 : Int32)).toNatClampNeg) + (1 : Int32)))))) fun M_274 =>
  some M_274
set_option maxHeartbeats 4000000 in
set_option maxRecDepth 100000 in
theorem b_X8_knows_264 {p : Program} {l : Launch} {e : Env} {s : State} {m : MethodId} {args : Array Value} {below : List Frame} {meth : Method} {c : Code} {Q : State → Prop} {dC : Nat → ClassId} {dI : Nat → Nat → Nat} {cs : Nat → ClassId} {A : Nat → Prop} {a : Nat → Nat} {res : Ms} (C : CallFix p m c cX8_knows 3 s args wsX8_knows RX8) (G : GE dC dI cs s) (hA : ∀ q : Nat, s.heap.size ≤ q → A q) (hR : RTv p l e ({ frames := 0, cells := 0, slots := 0, locals := 0 }) s m args below meth c cX8_knows Q (dC, dI) A (fun u : Ms => (wM cs a u)) res) (M : Ms)   (H : Heap) (locs : List Loc) (ls : Array Slot) (hl : lv_has ls 3 [(0, .ref (a 0))]) (hP : va_P (dC, dI) vwCl (wM cs a M) H) (hD : va_D A (wM cs a M)) (hS : va_S A s.heap H locs) (hf : f_X8_knows_264 M = some res) : W p l e ({ frames := 0, cells := 0, slots := 0, locals := 0 }) s m args below meth c H locs 0 0 Q (F0 m 264 ls []) := by
  obtain ⟨hx, hb, hml, hown, hts⟩ := id C
  obtain ⟨hK, hN⟩ := id G
  unfold f_X8_knows_264 at hf
  refine lv_aload_n hx hb dX8_knows_264 rfl (lv_at hl 0 rfl) ?_
  refine va_get (D := (dC, dI)) (ci := 8) (v := .ref (a 1)) (C := RX8) (T := TX8) (N := 20) hx hb hts in_X8_knows_X8 hown hK hP 0 rfl rfl 0 (by decide) (hts (.fieldLink RX8 7 "BackLoansModel" "now" "[I") (by decide +kernel)) (fun _ h9 => h9) rfl dX8_knows_265 ?_
  refine lv_bipush (v := 7) hx hb dX8_knows_268 (by decide) ?_
  refine lv_dup2_11 hx hb dX8_knows_270 rfl rfl ?_
  obtain ⟨hi1, hf⟩ := gi_e hf
  refine va_iald hx hb hK hP 1 0 rfl rfl hi1 dX8_knows_271 ?_
  refine lv_iconst (v := 1) hx hb dX8_knows_272 (by decide) ?_
  refine lv_iadd hx hb dX8_knows_273 ?_
  obtain ⟨hi2, hf⟩ := gi_e hf
  refine va_iast hx hb hK hP hD hS 1 0 rfl rfl hi2 dX8_knows_274 (fun H locs hP hD hS => ?_)
  obtain ⟨M_274, hP, hD, hf⟩ := st_nm (ws := fun M_274 : Ms => (wM cs a M_274)) ((M.1, M.2.1, va_up M.2.2 0 (upd (M.2.2 0) ((7 : Int32)).toNatClampNeg ((((M.2.2 0) ((7 : Int32)).toNatClampNeg) + (1 : Int32)))))) hP hD hf
  exact hR _ _ _ _ _ dX8_knows_275 hf hP hD hS
def f_X8_knows_174 (x1 : Int32) (M : Ms)  : Option Ms :=
  lett (0 : Int32) fun x2_175 =>
  l_X8_knows_176 x1 (fun Mz => f_X8_knows_264 Mz) FU x2_175 M
set_option maxHeartbeats 4000000 in
set_option maxRecDepth 100000 in
theorem b_X8_knows_174 {p : Program} {l : Launch} {e : Env} {s : State} {m : MethodId} {args : Array Value} {below : List Frame} {meth : Method} {c : Code} {Q : State → Prop} {dC : Nat → ClassId} {dI : Nat → Nat → Nat} {cs : Nat → ClassId} {A : Nat → Prop} {a : Nat → Nat} {res : Ms} (C : CallFix p m c cX8_knows 3 s args wsX8_knows RX8) (G : GE dC dI cs s) (hA : ∀ q : Nat, s.heap.size ≤ q → A q) (hR : RTv p l e ({ frames := 0, cells := 0, slots := 0, locals := 0 }) s m args below meth c cX8_knows Q (dC, dI) A (fun u : Ms => (wM cs a u)) res) (x1 : Int32) (M : Ms)   (H : Heap) (locs : List Loc) (ls : Array Slot) (hl : lv_has ls 3 [(0, .ref (a 0)), (1, .int (x1))]) (hP : va_P (dC, dI) vwCl (wM cs a M) H) (hD : va_D A (wM cs a M)) (hS : va_S A s.heap H locs) (hf : f_X8_knows_174 x1 M = some res) : W p l e ({ frames := 0, cells := 0, slots := 0, locals := 0 }) s m args below meth c H locs 0 0 Q (F0 m 174 ls []) := by
  obtain ⟨hx, hb, hml, hown, hts⟩ := id C
  obtain ⟨hK, hN⟩ := id G
  unfold f_X8_knows_174 at hf
  refine lv_iconst (v := 0) hx hb dX8_knows_174 (by decide) ?_
  refine lv_topi (fun x2_175 ex2_175 => ?_)
  replace hf := lett_s ex2_175 hf
  refine lv_istore_n (lv' := [(2, .int (x2_175)), (0, .ref (a 0)), (1, .int (x1))]) hx hb dX8_knows_175 rfl hl (by decide) rfl (fun ls hl => ?_)
  exact w_X8_knows_176 C G hA hR x1 (fun Mz H locs ls hl hP hD hS hf => b_X8_knows_264 C G hA hR Mz _ _ _ hl hP hD hS hf) FU x2_175 M _ _ _ (lv_sub hl [1, 2, 0] rfl) hP hD hS hf
def f_X8_knows_54 (M : Ms)  : Option Ms :=
  gi ((7 : Int32)) 362 <|
  lett ((82 : Int32) + ((35 : Int32) * ((M.2.2 0) ((7 : Int32)).toNatClampNeg))) fun x1_67 =>
  gi ((0 : Int32)) 362 <|
  gi (x1_67) 362 <|
  lett ((M.1, M.2.1, va_up M.2.2 0 (upd (M.2.2 0) (x1_67).toNatClampNeg (((M.2.2 0) ((0 : Int32)).toNatClampNeg))))) fun M_79 =>
  gi ((6 : Int32)) 362 <|
  gi ((x1_67 + (1 : Int32))) 362 <|
  lett ((M_79.1, M_79.2.1, va_up M_79.2.2 0 (upd (M_79.2.2 0) ((x1_67 + (1 : Int32))).toNatClampNeg (((M_79.2.2 0) ((6 : Int32)).toNatClampNeg))))) fun M_94 =>
  gi ((2 : Int32)) 362 <|
  gi ((x1_67 + (2 : Int32))) 362 <|
  lett ((M_94.1, M_94.2.1, va_up M_94.2.2 0 (upd (M_94.2.2 0) ((x1_67 + (2 : Int32))).toNatClampNeg (((M_94.2.2 0) ((2 : Int32)).toNatClampNeg))))) fun M_108 =>
  gi ((3 : Int32)) 362 <|
  gi ((x1_67 + (3 : Int32))) 362 <|
  lett ((M_108.1, M_108.2.1, va_up M_108.2.2 0 (upd (M_108.2.2 0) ((x1_67 + (3 : Int32))).toNatClampNeg (((M_108.2.2 0) ((3 : Int32)).toNatClampNeg))))) fun M_122 =>
  gi ((4 : Int32)) 362 <|
  gi ((x1_67 + (4 : Int32))) 362 <|
  lett ((M_122.1, M_122.2.1, va_up M_122.2.2 0 (upd (M_122.2.2 0) ((x1_67 + (4 : Int32))).toNatClampNeg (((M_122.2.2 0) ((4 : Int32)).toNatClampNeg))))) fun M_136 =>
  lett (0 : Int32) fun x2_138 =>
  l_X8_knows_139 x1_67 (fun Mz => f_X8_knows_174 x1_67 Mz) FU x2_138 M_136
set_option maxHeartbeats 4000000 in
set_option maxRecDepth 100000 in
theorem b_X8_knows_54 {p : Program} {l : Launch} {e : Env} {s : State} {m : MethodId} {args : Array Value} {below : List Frame} {meth : Method} {c : Code} {Q : State → Prop} {dC : Nat → ClassId} {dI : Nat → Nat → Nat} {cs : Nat → ClassId} {A : Nat → Prop} {a : Nat → Nat} {res : Ms} (C : CallFix p m c cX8_knows 3 s args wsX8_knows RX8) (G : GE dC dI cs s) (hA : ∀ q : Nat, s.heap.size ≤ q → A q) (hR : RTv p l e ({ frames := 0, cells := 0, slots := 0, locals := 0 }) s m args below meth c cX8_knows Q (dC, dI) A (fun u : Ms => (wM cs a u)) res) (M : Ms)   (H : Heap) (locs : List Loc) (ls : Array Slot) (hl : lv_has ls 3 [(0, .ref (a 0))]) (hP : va_P (dC, dI) vwCl (wM cs a M) H) (hD : va_D A (wM cs a M)) (hS : va_S A s.heap H locs) (hf : f_X8_knows_54 M = some res) : W p l e ({ frames := 0, cells := 0, slots := 0, locals := 0 }) s m args below meth c H locs 0 0 Q (F0 m 54 ls []) := by
  obtain ⟨hx, hb, hml, hown, hts⟩ := id C
  obtain ⟨hK, hN⟩ := id G
  unfold f_X8_knows_54 at hf
  refine lv_bipush (v := 82) hx hb dX8_knows_54 (by decide) ?_
  refine lv_bipush (v := 35) hx hb dX8_knows_56 (by decide) ?_
  refine lv_aload_n hx hb dX8_knows_58 rfl (lv_at hl 0 rfl) ?_
  refine va_get (D := (dC, dI)) (ci := 8) (v := .ref (a 1)) (C := RX8) (T := TX8) (N := 20) hx hb hts in_X8_knows_X8 hown hK hP 0 rfl rfl 0 (by decide) (hts (.fieldLink RX8 7 "BackLoansModel" "now" "[I") (by decide +kernel)) (fun _ h9 => h9) rfl dX8_knows_59 ?_
  refine lv_bipush (v := 7) hx hb dX8_knows_62 (by decide) ?_
  obtain ⟨hi1, hf⟩ := gi_e hf
  refine va_iald hx hb hK hP 1 0 rfl rfl hi1 dX8_knows_64 ?_
  refine lv_imul hx hb dX8_knows_65 ?_
  refine lv_iadd hx hb dX8_knows_66 ?_
  refine lv_topi (fun x1_67 ex1_67 => ?_)
  replace hf := lett_s ex1_67 hf
  refine lv_istore_n (lv' := [(1, .int (x1_67)), (0, .ref (a 0))]) hx hb dX8_knows_67 rfl hl (by decide) rfl (fun ls hl => ?_)
  refine lv_aload_n hx hb dX8_knows_68 rfl (lv_at hl 1 rfl) ?_
  refine va_get (D := (dC, dI)) (ci := 8) (v := .ref (a 1)) (C := RX8) (T := TX8) (N := 20) hx hb hts in_X8_knows_X8 hown hK hP 0 rfl rfl 0 (by decide) (hts (.fieldLink RX8 7 "BackLoansModel" "now" "[I") (by decide +kernel)) (fun _ h9 => h9) rfl dX8_knows_69 ?_
  refine lv_iload_n hx hb dX8_knows_72 rfl (lv_at hl 0 rfl) ?_
  refine lv_aload_n hx hb dX8_knows_73 rfl (lv_at hl 1 rfl) ?_
  refine va_get (D := (dC, dI)) (ci := 8) (v := .ref (a 1)) (C := RX8) (T := TX8) (N := 20) hx hb hts in_X8_knows_X8 hown hK hP 0 rfl rfl 0 (by decide) (hts (.fieldLink RX8 7 "BackLoansModel" "now" "[I") (by decide +kernel)) (fun _ h9 => h9) rfl dX8_knows_74 ?_
  refine lv_iconst (v := 0) hx hb dX8_knows_77 (by decide) ?_
  obtain ⟨hi2, hf⟩ := gi_e hf
  refine va_iald hx hb hK hP 1 0 rfl rfl hi2 dX8_knows_78 ?_
  obtain ⟨hi3, hf⟩ := gi_e hf
  refine va_iast hx hb hK hP hD hS 1 0 rfl rfl hi3 dX8_knows_79 (fun H locs hP hD hS => ?_)
  obtain ⟨M_79, hP, hD, hf⟩ := st_nm (ws := fun M_79 : Ms => (wM cs a M_79)) ((M.1, M.2.1, va_up M.2.2 0 (upd (M.2.2 0) (x1_67).toNatClampNeg (((M.2.2 0) ((0 : Int32)).toNatClampNeg))))) hP hD hf
  refine lv_aload_n hx hb dX8_knows_80 rfl (lv_at hl 1 rfl) ?_
  refine va_get (D := (dC, dI)) (ci := 8) (v := .ref (a 1)) (C := RX8) (T := TX8) (N := 20) hx hb hts in_X8_knows_X8 hown hK hP 0 rfl rfl 0 (by decide) (hts (.fieldLink RX8 7 "BackLoansModel" "now" "[I") (by decide +kernel)) (fun _ h9 => h9) rfl dX8_knows_81 ?_
  refine lv_iload_n hx hb dX8_knows_84 rfl (lv_at hl 0 rfl) ?_
  refine lv_iconst (v := 1) hx hb dX8_knows_85 (by decide) ?_
  refine lv_iadd hx hb dX8_knows_86 ?_
  refine lv_aload_n hx hb dX8_knows_87 rfl (lv_at hl 1 rfl) ?_
  refine va_get (D := (dC, dI)) (ci := 8) (v := .ref (a 1)) (C := RX8) (T := TX8) (N := 20) hx hb hts in_X8_knows_X8 hown hK hP 0 rfl rfl 0 (by decide) (hts (.fieldLink RX8 7 "BackLoansModel" "now" "[I") (by decide +kernel)) (fun _ h9 => h9) rfl dX8_knows_88 ?_
  refine lv_bipush (v := 6) hx hb dX8_knows_91 (by decide) ?_
  obtain ⟨hi4, hf⟩ := gi_e hf
  refine va_iald hx hb hK hP 1 0 rfl rfl hi4 dX8_knows_93 ?_
  obtain ⟨hi5, hf⟩ := gi_e hf
  refine va_iast hx hb hK hP hD hS 1 0 rfl rfl hi5 dX8_knows_94 (fun H locs hP hD hS => ?_)
  obtain ⟨M_94, hP, hD, hf⟩ := st_nm (ws := fun M_94 : Ms => (wM cs a M_94)) ((M_79.1, M_79.2.1, va_up M_79.2.2 0 (upd (M_79.2.2 0) ((x1_67 + (1 : Int32))).toNatClampNeg (((M_79.2.2 0) ((6 : Int32)).toNatClampNeg))))) hP hD hf
  refine lv_aload_n hx hb dX8_knows_95 rfl (lv_at hl 1 rfl) ?_
  refine va_get (D := (dC, dI)) (ci := 8) (v := .ref (a 1)) (C := RX8) (T := TX8) (N := 20) hx hb hts in_X8_knows_X8 hown hK hP 0 rfl rfl 0 (by decide) (hts (.fieldLink RX8 7 "BackLoansModel" "now" "[I") (by decide +kernel)) (fun _ h9 => h9) rfl dX8_knows_96 ?_
  refine lv_iload_n hx hb dX8_knows_99 rfl (lv_at hl 0 rfl) ?_
  refine lv_iconst (v := 2) hx hb dX8_knows_100 (by decide) ?_
  refine lv_iadd hx hb dX8_knows_101 ?_
  refine lv_aload_n hx hb dX8_knows_102 rfl (lv_at hl 1 rfl) ?_
  refine va_get (D := (dC, dI)) (ci := 8) (v := .ref (a 1)) (C := RX8) (T := TX8) (N := 20) hx hb hts in_X8_knows_X8 hown hK hP 0 rfl rfl 0 (by decide) (hts (.fieldLink RX8 7 "BackLoansModel" "now" "[I") (by decide +kernel)) (fun _ h9 => h9) rfl dX8_knows_103 ?_
  refine lv_iconst (v := 2) hx hb dX8_knows_106 (by decide) ?_
  obtain ⟨hi6, hf⟩ := gi_e hf
  refine va_iald hx hb hK hP 1 0 rfl rfl hi6 dX8_knows_107 ?_
  obtain ⟨hi7, hf⟩ := gi_e hf
  refine va_iast hx hb hK hP hD hS 1 0 rfl rfl hi7 dX8_knows_108 (fun H locs hP hD hS => ?_)
  obtain ⟨M_108, hP, hD, hf⟩ := st_nm (ws := fun M_108 : Ms => (wM cs a M_108)) ((M_94.1, M_94.2.1, va_up M_94.2.2 0 (upd (M_94.2.2 0) ((x1_67 + (2 : Int32))).toNatClampNeg (((M_94.2.2 0) ((2 : Int32)).toNatClampNeg))))) hP hD hf
  refine lv_aload_n hx hb dX8_knows_109 rfl (lv_at hl 1 rfl) ?_
  refine va_get (D := (dC, dI)) (ci := 8) (v := .ref (a 1)) (C := RX8) (T := TX8) (N := 20) hx hb hts in_X8_knows_X8 hown hK hP 0 rfl rfl 0 (by decide) (hts (.fieldLink RX8 7 "BackLoansModel" "now" "[I") (by decide +kernel)) (fun _ h9 => h9) rfl dX8_knows_110 ?_
  refine lv_iload_n hx hb dX8_knows_113 rfl (lv_at hl 0 rfl) ?_
  refine lv_iconst (v := 3) hx hb dX8_knows_114 (by decide) ?_
  refine lv_iadd hx hb dX8_knows_115 ?_
  refine lv_aload_n hx hb dX8_knows_116 rfl (lv_at hl 1 rfl) ?_
  refine va_get (D := (dC, dI)) (ci := 8) (v := .ref (a 1)) (C := RX8) (T := TX8) (N := 20) hx hb hts in_X8_knows_X8 hown hK hP 0 rfl rfl 0 (by decide) (hts (.fieldLink RX8 7 "BackLoansModel" "now" "[I") (by decide +kernel)) (fun _ h9 => h9) rfl dX8_knows_117 ?_
  refine lv_iconst (v := 3) hx hb dX8_knows_120 (by decide) ?_
  obtain ⟨hi8, hf⟩ := gi_e hf
  refine va_iald hx hb hK hP 1 0 rfl rfl hi8 dX8_knows_121 ?_
  obtain ⟨hi9, hf⟩ := gi_e hf
  refine va_iast hx hb hK hP hD hS 1 0 rfl rfl hi9 dX8_knows_122 (fun H locs hP hD hS => ?_)
  obtain ⟨M_122, hP, hD, hf⟩ := st_nm (ws := fun M_122 : Ms => (wM cs a M_122)) ((M_108.1, M_108.2.1, va_up M_108.2.2 0 (upd (M_108.2.2 0) ((x1_67 + (3 : Int32))).toNatClampNeg (((M_108.2.2 0) ((3 : Int32)).toNatClampNeg))))) hP hD hf
  refine lv_aload_n hx hb dX8_knows_123 rfl (lv_at hl 1 rfl) ?_
  refine va_get (D := (dC, dI)) (ci := 8) (v := .ref (a 1)) (C := RX8) (T := TX8) (N := 20) hx hb hts in_X8_knows_X8 hown hK hP 0 rfl rfl 0 (by decide) (hts (.fieldLink RX8 7 "BackLoansModel" "now" "[I") (by decide +kernel)) (fun _ h9 => h9) rfl dX8_knows_124 ?_
  refine lv_iload_n hx hb dX8_knows_127 rfl (lv_at hl 0 rfl) ?_
  refine lv_iconst (v := 4) hx hb dX8_knows_128 (by decide) ?_
  refine lv_iadd hx hb dX8_knows_129 ?_
  refine lv_aload_n hx hb dX8_knows_130 rfl (lv_at hl 1 rfl) ?_
  refine va_get (D := (dC, dI)) (ci := 8) (v := .ref (a 1)) (C := RX8) (T := TX8) (N := 20) hx hb hts in_X8_knows_X8 hown hK hP 0 rfl rfl 0 (by decide) (hts (.fieldLink RX8 7 "BackLoansModel" "now" "[I") (by decide +kernel)) (fun _ h9 => h9) rfl dX8_knows_131 ?_
  refine lv_iconst (v := 4) hx hb dX8_knows_134 (by decide) ?_
  obtain ⟨hi10, hf⟩ := gi_e hf
  refine va_iald hx hb hK hP 1 0 rfl rfl hi10 dX8_knows_135 ?_
  obtain ⟨hi11, hf⟩ := gi_e hf
  refine va_iast hx hb hK hP hD hS 1 0 rfl rfl hi11 dX8_knows_136 (fun H locs hP hD hS => ?_)
  obtain ⟨M_136, hP, hD, hf⟩ := st_nm (ws := fun M_136 : Ms => (wM cs a M_136)) ((M_122.1, M_122.2.1, va_up M_122.2.2 0 (upd (M_122.2.2 0) ((x1_67 + (4 : Int32))).toNatClampNeg (((M_122.2.2 0) ((4 : Int32)).toNatClampNeg))))) hP hD hf
  refine lv_iconst (v := 0) hx hb dX8_knows_137 (by decide) ?_
  refine lv_topi (fun x2_138 ex2_138 => ?_)
  replace hf := lett_s ex2_138 hf
  refine lv_istore_n (lv' := [(2, .int (x2_138)), (1, .int (x1_67)), (0, .ref (a 0))]) hx hb dX8_knows_138 rfl hl (by decide) rfl (fun ls hl => ?_)
  exact w_X8_knows_139 C G hA hR x1_67 (fun Mz H locs ls hl hP hD hS hf => b_X8_knows_174 C G hA hR x1_67 Mz _ _ _ hl hP hD hS hf) FU x2_138 M_136 _ _ _ (lv_sub hl [2, 1, 0] rfl) hP hD hS hf
def f_X8_knows_43 (M : Ms)  : Option Ms :=
  gi ((7 : Int32)) 362 <|
  gi ((7 : Int32)) 362 <|
  lett ((M.1, M.2.1, va_up M.2.2 0 (upd (M.2.2 0) ((7 : Int32)).toNatClampNeg ((((M.2.2 0) ((7 : Int32)).toNatClampNeg) - (1 : Int32)))))) fun M_53 =>
  f_X8_knows_54 M_53
set_option maxHeartbeats 4000000 in
set_option maxRecDepth 100000 in
theorem b_X8_knows_43 {p : Program} {l : Launch} {e : Env} {s : State} {m : MethodId} {args : Array Value} {below : List Frame} {meth : Method} {c : Code} {Q : State → Prop} {dC : Nat → ClassId} {dI : Nat → Nat → Nat} {cs : Nat → ClassId} {A : Nat → Prop} {a : Nat → Nat} {res : Ms} (C : CallFix p m c cX8_knows 3 s args wsX8_knows RX8) (G : GE dC dI cs s) (hA : ∀ q : Nat, s.heap.size ≤ q → A q) (hR : RTv p l e ({ frames := 0, cells := 0, slots := 0, locals := 0 }) s m args below meth c cX8_knows Q (dC, dI) A (fun u : Ms => (wM cs a u)) res) (M : Ms)   (H : Heap) (locs : List Loc) (ls : Array Slot) (hl : lv_has ls 3 [(0, .ref (a 0))]) (hP : va_P (dC, dI) vwCl (wM cs a M) H) (hD : va_D A (wM cs a M)) (hS : va_S A s.heap H locs) (hf : f_X8_knows_43 M = some res) : W p l e ({ frames := 0, cells := 0, slots := 0, locals := 0 }) s m args below meth c H locs 0 0 Q (F0 m 43 ls []) := by
  obtain ⟨hx, hb, hml, hown, hts⟩ := id C
  obtain ⟨hK, hN⟩ := id G
  unfold f_X8_knows_43 at hf
  refine lv_aload_n hx hb dX8_knows_43 rfl (lv_at hl 0 rfl) ?_
  refine va_get (D := (dC, dI)) (ci := 8) (v := .ref (a 1)) (C := RX8) (T := TX8) (N := 20) hx hb hts in_X8_knows_X8 hown hK hP 0 rfl rfl 0 (by decide) (hts (.fieldLink RX8 7 "BackLoansModel" "now" "[I") (by decide +kernel)) (fun _ h9 => h9) rfl dX8_knows_44 ?_
  refine lv_bipush (v := 7) hx hb dX8_knows_47 (by decide) ?_
  refine lv_dup2_11 hx hb dX8_knows_49 rfl rfl ?_
  obtain ⟨hi1, hf⟩ := gi_e hf
  refine va_iald hx hb hK hP 1 0 rfl rfl hi1 dX8_knows_50 ?_
  refine lv_iconst (v := 1) hx hb dX8_knows_51 (by decide) ?_
  refine lv_isub hx hb dX8_knows_52 ?_
  obtain ⟨hi2, hf⟩ := gi_e hf
  refine va_iast hx hb hK hP hD hS 1 0 rfl rfl hi2 dX8_knows_53 (fun H locs hP hD hS => ?_)
  obtain ⟨M_53, hP, hD, hf⟩ := st_nm (ws := fun M_53 : Ms => (wM cs a M_53)) ((M.1, M.2.1, va_up M.2.2 0 (upd (M.2.2 0) ((7 : Int32)).toNatClampNeg ((((M.2.2 0) ((7 : Int32)).toNatClampNeg) - (1 : Int32)))))) hP hD hf
  exact b_X8_knows_54 C G hA hR M_53 _ _ _ (lv_sub hl [0] rfl) hP hD hS hf
def f_X8_knows  (M : Ms) : Option Ms :=
  gi ((7 : Int32)) 362 <|
  if ((M.2.2 0) ((7 : Int32)).toNatClampNeg) = (8 : Int32) then (
    lett (82 : Int32) fun x1_14 =>
    l_X8_knows_15 (fun Mz => f_X8_knows_43 Mz) FU x1_14 M
  ) else (
    f_X8_knows_54 M
  )
set_option maxHeartbeats 4000000 in
set_option maxRecDepth 100000 in
theorem c_X8_knows (l : Launch) (dC : Nat → ClassId) (dI : Nat → Nat → Nat) (cs : Nat → ClassId) (a : Nat → Nat) (sz : Nat) (M : Ms)  (res : Ms) (hf : f_X8_knows M = some res) : Met l yX8_knows wsX8_knows ({ frames := 0, cells := 0, slots := 0, locals := 0 }) (va_Pc [.ref (a 0)] (fun U => U.heap.size = sz ∧ va_P (dC, dI) vwCl (wM cs a M) U.heap ∧ GE dC dI cs U ∧ va_D (fun _ => True) (wM cs a M))) (va_Qv (fun u : Ms => u = res) (fun u t => va_P (dC, dI) vwCl ((fun u : Ms => (wM cs a u)) u) t.heap ∧ va_D (va_A (wM cs a M) sz) ((fun u : Ms => (wM cs a u)) u)) (va_A (wM cs a M) sz)) 0 0 (va_A (wM cs a M) sz) := by
  refine Met.ofW (cc := cX8_knows) (maxL := 3) (ret := none) (by decide) rfl ?_
  intro p e s m args below meth c s₁ Bd hml hv
  obtain ⟨rfl, hsz, hP, G, hD0⟩ := hv
  have hts := atoms_spec (ws := wsX8_knows) Bd.pre
  have hown : s.vm.findClass RX8 = some m.cls := findClass_of_methodNamed Bd.named
  have hlocks := Bd.notSynchronized
  have hx := Bd.exec
  have hb := Bd.bytes
  have hr := Bd.returns
  have C : CallFix p m c cX8_knows 3 s _ wsX8_knows RX8 := ⟨hx, hb, hml, hown, hts⟩
  obtain ⟨hK, hN⟩ := id G
  subst hsz
  have hD := hD0.self (sz := s.heap.size)
  generalize hAe : va_A (wM cs a M) s.heap.size = A at hD ⊢
  have hA : ∀ q : Nat, s.heap.size ≤ q → A q := fun q h => by rw [← hAe]; exact Or.inr h
  have hS : va_S A s.heap s.heap [] := va_S.rf
  have hR : RTv p l e ({ frames := 0, cells := 0, slots := 0, locals := 0 }) s m ([.ref (a 0)] : List Value).toArray below meth c cX8_knows (MQ below (va_Qv (fun u : Ms => u = res) (fun u t => va_P (dC, dI) vwCl ((fun u : Ms => (wM cs a u)) u) t.heap ∧ va_D A ((fun u : Ms => (wM cs a u)) u)) A) ([.ref (a 0)] : List Value).toArray s 0 0 A) (dC, dI) A (fun u : Ms => (wM cs a u)) res := fun H locs pc ls u dd h hP hD hS => W.vret hx hb hr (fun t ht hW => ⟨⟨u, rfl, by cases h; rfl, by rw [ht]; exact hP, hD⟩, hS.F ht⟩) hS.2.2 dd
  have hl := lv_entry ([.ref (a 0)]) (n := 3) (Nat.le_of_ble_eq_true rfl)
  rw [lg_entry_eq]
  generalize (lg_sl ([.ref (a 0)]) ++ List.replicate (3 - (lg_sl ([.ref (a 0)])).length) Slot.unset).toArray = ls at hl ⊢
  have hl : lv_has ls 3 [(0, .ref (a 0))] := hl
  unfold f_X8_knows at hf
  refine lv_aload_n hx hb dX8_knows_0 rfl (lv_at hl 0 rfl) ?_
  refine va_get (D := (dC, dI)) (ci := 8) (v := .ref (a 1)) (C := RX8) (T := TX8) (N := 20) hx hb hts in_X8_knows_X8 hown hK hP 0 rfl rfl 0 (by decide) (hts (.fieldLink RX8 7 "BackLoansModel" "now" "[I") (by decide +kernel)) (fun _ h9 => h9) rfl dX8_knows_1 ?_
  refine lv_bipush (v := 7) hx hb dX8_knows_4 (by decide) ?_
  obtain ⟨hi1, hf⟩ := gi_e hf
  refine va_iald hx hb hK hP 1 0 rfl rfl hi1 dX8_knows_6 ?_
  refine lv_bipush (v := 8) hx hb dX8_knows_7 (by decide) ?_
  refine lv_icmp_ne (tgt := 54) hx hb dX8_knows_9 (by decide) (fun c2 => ?_) (fun c2 => ?_)
  · replace hf := it_f c2 hf
    exact b_X8_knows_54 C G hA hR M _ _ _ (lv_sub hl [0] rfl) hP hD hS hf
  · replace hf := it_t c2 hf
    refine lv_bipush (v := 82) hx hb dX8_knows_12 (by decide) ?_
    refine lv_topi (fun x1_14 ex1_14 => ?_)
    replace hf := lett_s ex1_14 hf
    refine lv_istore_n (lv' := [(1, .int (x1_14)), (0, .ref (a 0))]) hx hb dX8_knows_14 rfl hl (by decide) rfl (fun ls hl => ?_)
    exact w_X8_knows_15 C G hA hR (fun Mz H locs ls hl hP hD hS hf => b_X8_knows_43 C G hA hR Mz _ _ _ hl hP hD hS hf) FU x1_14 M _ _ _ (lv_sub hl [1, 0] rfl) hP hD hS hf

def f_X8_comes_33 (x0 : Int32) (x2 : Int32) (s0 : Int32) (s1 : Int32)  : Option Int32 :=
  if x0 = (4 : Int32) then (
    if (x2 - x2 / (12 : Int32) * (12 : Int32)) = (6 : Int32) then (
      some ((s0 + s1) + (60 : Int32))
    ) else (
      some ((s0 + s1) + (0 : Int32))
    )
  ) else (
    some ((s0 + s1) + (0 : Int32))
  )
set_option maxHeartbeats 4000000 in
set_option maxRecDepth 100000 in
theorem b_X8_comes_33 {p : Program} {l : Launch} {e : Env} {s : State} {m : MethodId} {args : Array Value} {below : List Frame} {meth : Method} {c : Code} {Q : State → Prop} {dC : Nat → ClassId} {dI : Nat → Nat → Nat} {cs : Nat → ClassId} {res : Int32} (C : CallFix p m c cX8_comes 4 s args wsX8_comes RX8) (G : GE dC dI cs s) (hR : RPi p l e ({ frames := 0, cells := 0, slots := 0, locals := 0 }) s m args below meth c cX8_comes Q res) (hP : va_P (dC, dI) vwCl ([] : va_W) s.heap) (x0 : Int32) (x2 : Int32) (s0 : Int32) (s1 : Int32)    (ls : Array Slot) (hl : lv_has ls 4 [(0, .int (x0)), (2, .int (x2))]) (hf : f_X8_comes_33 x0 x2 s0 s1 = some res) : W p l e ({ frames := 0, cells := 0, slots := 0, locals := 0 }) s m args below meth c s.heap [] 0 0 Q (F0 m 33 ls [.int (s1), .int (s0)]) := by
  obtain ⟨hx, hb, hml, hown, hts⟩ := id C
  obtain ⟨hK, hN⟩ := id G
  unfold f_X8_comes_33 at hf
  refine lv_iadd hx hb dX8_comes_33 ?_
  refine lv_iload_n hx hb dX8_comes_34 rfl (lv_at hl 0 rfl) ?_
  refine lv_iconst (v := 4) hx hb dX8_comes_35 (by decide) ?_
  refine lv_icmp_ne (tgt := 53) hx hb dX8_comes_36 (by decide) (fun c1 => ?_) (fun c1 => ?_)
  · replace hf := it_f c1 hf
    refine lv_iconst (v := 0) hx hb dX8_comes_53 (by decide) ?_
    refine lv_iadd hx hb dX8_comes_54 ?_
    exact hR _ _ _ dX8_comes_55 hf
  · replace hf := it_t c1 hf
    refine lv_iload_n hx hb dX8_comes_39 rfl (lv_at hl 1 rfl) ?_
    refine lv_bipush (v := 12) hx hb dX8_comes_40 (by decide) ?_
    refine lv_irem hx hb dX8_comes_42 (by decide) ?_
    refine lv_bipush (v := 6) hx hb dX8_comes_43 (by decide) ?_
    refine lv_icmp_ne (tgt := 53) hx hb dX8_comes_45 (by decide) (fun c2 => ?_) (fun c2 => ?_)
    · replace hf := it_f c2 hf
      refine lv_iconst (v := 0) hx hb dX8_comes_53 (by decide) ?_
      refine lv_iadd hx hb dX8_comes_54 ?_
      exact hR _ _ _ dX8_comes_55 hf
    · replace hf := it_t c2 hf
      refine lv_bipush (v := 60) hx hb dX8_comes_48 (by decide) ?_
      refine lv_goto (tgt := 54) hx hb dX8_comes_50 (by decide) ?_
      refine lv_iadd hx hb dX8_comes_54 ?_
      exact hR _ _ _ dX8_comes_55 hf
def f_X8_comes_21 (x0 : Int32) (x2 : Int32) (s0 : Int32)  : Option Int32 :=
  if x0 = (3 : Int32) then (
    f_X8_comes_33 x0 x2 s0 (2 : Int32)
  ) else (
    f_X8_comes_33 x0 x2 s0 (0 : Int32)
  )
set_option maxHeartbeats 4000000 in
set_option maxRecDepth 100000 in
theorem b_X8_comes_21 {p : Program} {l : Launch} {e : Env} {s : State} {m : MethodId} {args : Array Value} {below : List Frame} {meth : Method} {c : Code} {Q : State → Prop} {dC : Nat → ClassId} {dI : Nat → Nat → Nat} {cs : Nat → ClassId} {res : Int32} (C : CallFix p m c cX8_comes 4 s args wsX8_comes RX8) (G : GE dC dI cs s) (hR : RPi p l e ({ frames := 0, cells := 0, slots := 0, locals := 0 }) s m args below meth c cX8_comes Q res) (hP : va_P (dC, dI) vwCl ([] : va_W) s.heap) (x0 : Int32) (x2 : Int32) (s0 : Int32)    (ls : Array Slot) (hl : lv_has ls 4 [(0, .int (x0)), (2, .int (x2))]) (hf : f_X8_comes_21 x0 x2 s0 = some res) : W p l e ({ frames := 0, cells := 0, slots := 0, locals := 0 }) s m args below meth c s.heap [] 0 0 Q (F0 m 21 ls [.int (s0)]) := by
  obtain ⟨hx, hb, hml, hown, hts⟩ := id C
  obtain ⟨hK, hN⟩ := id G
  unfold f_X8_comes_21 at hf
  refine lv_istore_n (lv' := [(3, .int (s0)), (0, .int (x0)), (2, .int (x2))]) hx hb dX8_comes_21 rfl hl (by decide) rfl (fun ls hl => ?_)
  refine lv_iload_n hx hb dX8_comes_22 rfl (lv_at hl 0 rfl) ?_
  refine lv_iload_n hx hb dX8_comes_23 rfl (lv_at hl 1 rfl) ?_
  refine lv_iconst (v := 3) hx hb dX8_comes_24 (by decide) ?_
  refine lv_icmp_ne (tgt := 32) hx hb dX8_comes_25 (by decide) (fun c1 => ?_) (fun c1 => ?_)
  · replace hf := it_f c1 hf
    refine lv_iconst (v := 0) hx hb dX8_comes_32 (by decide) ?_
    exact b_X8_comes_33 C G hR hP x0 x2 s0 (0 : Int32) _ (lv_sub hl [1, 2] rfl) hf
  · replace hf := it_t c1 hf
    refine lv_iconst (v := 2) hx hb dX8_comes_28 (by decide) ?_
    refine lv_goto (tgt := 33) hx hb dX8_comes_29 (by decide) ?_
    exact b_X8_comes_33 C G hR hP x0 x2 s0 (2 : Int32) _ (lv_sub hl [1, 2] rfl) hf
def f_X8_comes_20 (x0 : Int32) (x1 : Int32) (x2 : Int32)  : Option Int32 :=
  f_X8_comes_21 x0 x2 x1
set_option maxHeartbeats 4000000 in
set_option maxRecDepth 100000 in
theorem b_X8_comes_20 {p : Program} {l : Launch} {e : Env} {s : State} {m : MethodId} {args : Array Value} {below : List Frame} {meth : Method} {c : Code} {Q : State → Prop} {dC : Nat → ClassId} {dI : Nat → Nat → Nat} {cs : Nat → ClassId} {res : Int32} (C : CallFix p m c cX8_comes 4 s args wsX8_comes RX8) (G : GE dC dI cs s) (hR : RPi p l e ({ frames := 0, cells := 0, slots := 0, locals := 0 }) s m args below meth c cX8_comes Q res) (hP : va_P (dC, dI) vwCl ([] : va_W) s.heap) (x0 : Int32) (x1 : Int32) (x2 : Int32)    (ls : Array Slot) (hl : lv_has ls 4 [(0, .int (x0)), (1, .int (x1)), (2, .int (x2))]) (hf : f_X8_comes_20 x0 x1 x2 = some res) : W p l e ({ frames := 0, cells := 0, slots := 0, locals := 0 }) s m args below meth c s.heap [] 0 0 Q (F0 m 20 ls []) := by
  obtain ⟨hx, hb, hml, hown, hts⟩ := id C
  obtain ⟨hK, hN⟩ := id G
  unfold f_X8_comes_20 at hf
  refine lv_iload_n hx hb dX8_comes_20 rfl (lv_at hl 1 rfl) ?_
  exact b_X8_comes_21 C G hR hP x0 x2 x1 _ (lv_sub hl [0, 2] rfl) hf
def f_X8_comes_10 (x0 : Int32) (x1 : Int32) (x2 : Int32)  : Option Int32 :=
  if (x2 - x2 / (3 : Int32) * (3 : Int32)) = 0 then (
    f_X8_comes_21 x0 x2 (0 : Int32)
  ) else (
    f_X8_comes_20 x0 x1 x2
  )
set_option maxHeartbeats 4000000 in
set_option maxRecDepth 100000 in
theorem b_X8_comes_10 {p : Program} {l : Launch} {e : Env} {s : State} {m : MethodId} {args : Array Value} {below : List Frame} {meth : Method} {c : Code} {Q : State → Prop} {dC : Nat → ClassId} {dI : Nat → Nat → Nat} {cs : Nat → ClassId} {res : Int32} (C : CallFix p m c cX8_comes 4 s args wsX8_comes RX8) (G : GE dC dI cs s) (hR : RPi p l e ({ frames := 0, cells := 0, slots := 0, locals := 0 }) s m args below meth c cX8_comes Q res) (hP : va_P (dC, dI) vwCl ([] : va_W) s.heap) (x0 : Int32) (x1 : Int32) (x2 : Int32)    (ls : Array Slot) (hl : lv_has ls 4 [(0, .int (x0)), (1, .int (x1)), (2, .int (x2))]) (hf : f_X8_comes_10 x0 x1 x2 = some res) : W p l e ({ frames := 0, cells := 0, slots := 0, locals := 0 }) s m args below meth c s.heap [] 0 0 Q (F0 m 10 ls []) := by
  obtain ⟨hx, hb, hml, hown, hts⟩ := id C
  obtain ⟨hK, hN⟩ := id G
  unfold f_X8_comes_10 at hf
  refine lv_iload_n hx hb dX8_comes_10 rfl (lv_at hl 2 rfl) ?_
  refine lv_iconst (v := 3) hx hb dX8_comes_11 (by decide) ?_
  refine lv_irem hx hb dX8_comes_12 (by decide) ?_
  refine lv_if_ne (tgt := 20) hx hb dX8_comes_13 (by decide) (fun c1 => ?_) (fun c1 => ?_)
  · replace hf := it_f c1 hf
    exact b_X8_comes_20 C G hR hP x0 x1 x2 _ (lv_sub hl [0, 1, 2] rfl) hf
  · replace hf := it_t c1 hf
    refine lv_iconst (v := 0) hx hb dX8_comes_16 (by decide) ?_
    refine lv_goto (tgt := 21) hx hb dX8_comes_17 (by decide) ?_
    exact b_X8_comes_21 C G hR hP x0 x2 (0 : Int32) _ (lv_sub hl [0, 2] rfl) hf
def f_X8_comes (x0 : Int32) (x1 : Int32) (x2 : Int32)  : Option Int32 :=
  if x0 = (1 : Int32) then (
    f_X8_comes_10 x0 x1 x2
  ) else (
    if x0 = (3 : Int32) then (
      f_X8_comes_10 x0 x1 x2
    ) else (
      f_X8_comes_20 x0 x1 x2
    )
  )
set_option maxHeartbeats 4000000 in
set_option maxRecDepth 100000 in
theorem c_X8_comes (l : Launch) (dC : Nat → ClassId) (dI : Nat → Nat → Nat) (cs : Nat → ClassId)  (x0 : Int32) (x1 : Int32) (x2 : Int32) (res : Int32) (hf : f_X8_comes x0 x1 x2 = some res) : Met l yX8_comes wsX8_comes ({ frames := 0, cells := 0, slots := 0, locals := 0 }) (va_Pc [.int (x0), .int (x1), .int (x2)] (fun U => va_P (dC, dI) vwCl ([] : va_W) U.heap ∧ GE dC dI cs U)) (vp_Si (fun r => r = res)) 0 0 (fun _ => False) := by
  refine Met.ofW (cc := cX8_comes) (maxL := 4) (ret := (some .int)) (by decide) rfl ?_
  intro p e s m args below meth c s₁ Bd hml hv
  obtain ⟨rfl, hP, G⟩ := hv
  have hts := atoms_spec (ws := wsX8_comes) Bd.pre
  have hown : s.vm.findClass RX8 = some m.cls := findClass_of_methodNamed Bd.named
  have hlocks := Bd.notSynchronized
  have hx := Bd.exec
  have hb := Bd.bytes
  have hr := Bd.returns
  have C : CallFix p m c cX8_comes 4 s _ wsX8_comes RX8 := ⟨hx, hb, hml, hown, hts⟩
  obtain ⟨hK, hN⟩ := id G
  have hR : RPi p l e ({ frames := 0, cells := 0, slots := 0, locals := 0 }) s m ([.int (x0), .int (x1), .int (x2)] : List Value).toArray below meth c cX8_comes (MQ below (vp_Si (fun r => r = res)) ([.int (x0), .int (x1), .int (x2)] : List Value).toArray s 0 0 (fun _ => False)) res := fun pc ls r dd h => W.iret hx hb hr (fun t ht hW => ⟨r, rfl, Option.some.inj h, ht⟩) (fun q hq => by cases hq) dd
  have hl := lv_entry ([.int (x0), .int (x1), .int (x2)]) (n := 4) (Nat.le_of_ble_eq_true rfl)
  rw [lg_entry_eq]
  generalize (lg_sl ([.int (x0), .int (x1), .int (x2)]) ++ List.replicate (4 - (lg_sl ([.int (x0), .int (x1), .int (x2)])).length) Slot.unset).toArray = ls at hl ⊢
  have hl : lv_has ls 4 [(0, .int (x0)), (1, .int (x1)), (2, .int (x2))] := hl
  unfold f_X8_comes at hf
  refine lv_iload_n hx hb dX8_comes_0 rfl (lv_at hl 0 rfl) ?_
  refine lv_iconst (v := 1) hx hb dX8_comes_1 (by decide) ?_
  refine lv_icmp_eq (tgt := 10) hx hb dX8_comes_2 (by decide) (fun c1 => ?_) (fun c1 => ?_)
  · replace hf := it_t c1 hf
    exact b_X8_comes_10 C G hR hP x0 x1 x2 _ (lv_sub hl [0, 1, 2] rfl) hf
  · replace hf := it_f c1 hf
    refine lv_iload_n hx hb dX8_comes_5 rfl (lv_at hl 0 rfl) ?_
    refine lv_iconst (v := 3) hx hb dX8_comes_6 (by decide) ?_
    refine lv_icmp_ne (tgt := 20) hx hb dX8_comes_7 (by decide) (fun c2 => ?_) (fun c2 => ?_)
    · replace hf := it_f c2 hf
      exact b_X8_comes_20 C G hR hP x0 x1 x2 _ (lv_sub hl [0, 1, 2] rfl) hf
    · replace hf := it_t c2 hf
      exact b_X8_comes_10 C G hR hP x0 x1 x2 _ (lv_sub hl [0, 1, 2] rfl) hf

def f_X8_least (x0 : Int32) (x1 : Int32)  : Option Int32 :=
  if x1 ≤ x0 then (
    some x1
  ) else (
    some x0
  )
set_option maxHeartbeats 4000000 in
set_option maxRecDepth 100000 in
theorem c_X8_least (l : Launch) (dC : Nat → ClassId) (dI : Nat → Nat → Nat) (cs : Nat → ClassId)  (x0 : Int32) (x1 : Int32) (res : Int32) (hf : f_X8_least x0 x1 = some res) : Met l yX8_least wsX8_least ({ frames := 0, cells := 0, slots := 0, locals := 0 }) (va_Pc [.int (x0), .int (x1)] (fun U => va_P (dC, dI) vwCl ([] : va_W) U.heap ∧ GE dC dI cs U)) (vp_Si (fun r => r = res)) 0 0 (fun _ => False) := by
  refine Met.ofW (cc := cX8_least) (maxL := 2) (ret := (some .int)) (by decide) rfl ?_
  intro p e s m args below meth c s₁ Bd hml hv
  obtain ⟨rfl, hP, G⟩ := hv
  have hts := atoms_spec (ws := wsX8_least) Bd.pre
  have hown : s.vm.findClass RX8 = some m.cls := findClass_of_methodNamed Bd.named
  have hlocks := Bd.notSynchronized
  have hx := Bd.exec
  have hb := Bd.bytes
  have hr := Bd.returns
  have C : CallFix p m c cX8_least 2 s _ wsX8_least RX8 := ⟨hx, hb, hml, hown, hts⟩
  obtain ⟨hK, hN⟩ := id G
  have hR : RPi p l e ({ frames := 0, cells := 0, slots := 0, locals := 0 }) s m ([.int (x0), .int (x1)] : List Value).toArray below meth c cX8_least (MQ below (vp_Si (fun r => r = res)) ([.int (x0), .int (x1)] : List Value).toArray s 0 0 (fun _ => False)) res := fun pc ls r dd h => W.iret hx hb hr (fun t ht hW => ⟨r, rfl, Option.some.inj h, ht⟩) (fun q hq => by cases hq) dd
  have hl := lv_entry ([.int (x0), .int (x1)]) (n := 2) (Nat.le_of_ble_eq_true rfl)
  rw [lg_entry_eq]
  generalize (lg_sl ([.int (x0), .int (x1)]) ++ List.replicate (2 - (lg_sl ([.int (x0), .int (x1)])).length) Slot.unset).toArray = ls at hl ⊢
  have hl : lv_has ls 2 [(0, .int (x0)), (1, .int (x1))] := hl
  unfold f_X8_least at hf
  refine lv_iload_n hx hb dX8_least_0 rfl (lv_at hl 0 rfl) ?_
  refine lv_iload_n hx hb dX8_least_1 rfl (lv_at hl 1 rfl) ?_
  refine lv_icmp_ge (tgt := 9) hx hb dX8_least_2 (by decide) (fun c1 => ?_) (fun c1 => ?_)
  · replace hf := it_t c1 hf
    refine lv_iload_n hx hb dX8_least_9 rfl (lv_at hl 1 rfl) ?_
    exact hR _ _ _ dX8_least_10 hf
  · replace hf := it_f c1 hf
    refine lv_iload_n hx hb dX8_least_5 rfl (lv_at hl 0 rfl) ?_
    refine lv_goto (tgt := 10) hx hb dX8_least_6 (by decide) ?_
    exact hR _ _ _ dX8_least_10 hf

def f_X8_gives_56 (x2 : Int32) (x3 : Int32) (s0 : Int32) (tt : Nat → Int32)  : Option ((Nat → Int32)) :=
  if s0 = 0 then (
    gi ((x2 + (3 : Int32))) 362 <|
    lett (upd tt ((x2 + (3 : Int32))).toNatClampNeg ((2 : Int32))) fun tt_68 =>
    some tt_68
  ) else (
    gi ((x3 + (2 : Int32))) 362 <|
    gi ((x2 + (1 : Int32))) 362 <|
    gi ((x3 + (2 : Int32))) 362 <|
    lett (upd tt ((x3 + (2 : Int32))).toNatClampNeg (((tt ((x3 + (2 : Int32))).toNatClampNeg) - (tt ((x2 + (1 : Int32))).toNatClampNeg)))) fun tt_82 =>
    gi ((0 : Int32)) 362 <|
    gi ((x2 + (1 : Int32))) 362 <|
    bn (f_X8_least (99999 : Int32) ((tt_82 ((0 : Int32)).toNatClampNeg) + (tt_82 ((x2 + (1 : Int32))).toNatClampNeg))) fun r96 =>
    gi ((0 : Int32)) 362 <|
    lett (upd tt_82 ((0 : Int32)).toNatClampNeg (r96)) fun tt_99 =>
    gi ((x2 + (4 : Int32))) 362 <|
    gi ((x2 + (4 : Int32))) 362 <|
    lett (upd tt_99 ((x2 + (4 : Int32))).toNatClampNeg (((tt_99 ((x2 + (4 : Int32))).toNatClampNeg) + (1 : Int32)))) fun tt_108 =>
    gi ((x2 + (4 : Int32))) 362 <|
    gi ((x2 + (2 : Int32))) 362 <|
    if (tt_108 ((x2 + (4 : Int32))).toNatClampNeg) = (tt_108 ((x2 + (2 : Int32))).toNatClampNeg) then (
      gi ((x2 + (3 : Int32))) 362 <|
      lett (upd tt_108 ((x2 + (3 : Int32))).toNatClampNeg ((3 : Int32))) fun tt_131 =>
      some tt_131
    ) else (
      gi ((x2 + (3 : Int32))) 362 <|
      lett (upd tt_108 ((x2 + (3 : Int32))).toNatClampNeg ((0 : Int32))) fun tt_131 =>
      some tt_131
    )
  )
set_option maxHeartbeats 4000000 in
set_option maxRecDepth 100000 in
theorem b_X8_gives_56 {p : Program} {l : Launch} {e : Env} {s : State} {m : MethodId} {args : Array Value} {below : List Frame} {meth : Method} {c : Code} {Q : State → Prop} {dC : Nat → ClassId} {dI : Nat → Nat → Nat} {cs : Nat → ClassId} {A : Nat → Prop} {a : Nat} {res : (Nat → Int32)} (C : CallFix p m c cX8_gives 5 s args wsX8_gives RX8) (G : GE dC dI cs s) (hA : ∀ q : Nat, s.heap.size ≤ q → A q) (hR : RTv p l e ({ frames := 1, cells := 0, slots := 0, locals := 21 }) s m args below meth c cX8_gives Q (dC, dI) A (fun u : (Nat → Int32) => (wA cs a 362 u)) res) (x2 : Int32) (x3 : Int32) (s0 : Int32) (tt : Nat → Int32)   (H : Heap) (locs : List Loc) (ls : Array Slot) (hl : lv_has ls 5 [(0, .ref a), (2, .int (x2)), (3, .int (x3))]) (hP : va_P (dC, dI) vwCl (wA cs a 362 tt) H) (hD : va_D A (wA cs a 362 tt)) (hS : va_S A s.heap H locs) (hf : f_X8_gives_56 x2 x3 s0 tt = some res) : W p l e ({ frames := 1, cells := 0, slots := 0, locals := 21 }) s m args below meth c H locs 0 0 Q (F0 m 56 ls [.int (s0)]) := by
  obtain ⟨hx, hb, hml, hown, hts⟩ := id C
  obtain ⟨hK, hN⟩ := id G
  unfold f_X8_gives_56 at hf
  refine lv_istore (lv' := [(4, .int (s0)), (0, .ref a), (2, .int (x2)), (3, .int (x3))]) hx hb dX8_gives_56 hl (by decide) rfl (fun ls hl => ?_)
  refine lv_iload hx hb dX8_gives_58 (lv_at hl 0 rfl) ?_
  refine lv_if_ne (tgt := 70) hx hb dX8_gives_60 (by decide) (fun c1 => ?_) (fun c1 => ?_)
  · replace hf := it_f c1 hf
    refine lv_aload_n hx hb dX8_gives_70 rfl (lv_at hl 1 rfl) ?_
    refine lv_iload_n hx hb dX8_gives_71 rfl (lv_at hl 3 rfl) ?_
    refine lv_iconst (v := 2) hx hb dX8_gives_72 (by decide) ?_
    refine lv_iadd hx hb dX8_gives_73 ?_
    refine lv_dup2_11 hx hb dX8_gives_74 rfl rfl ?_
    obtain ⟨hi2, hf⟩ := gi_e hf
    refine va_iald hx hb hK hP 0 0 rfl rfl hi2 dX8_gives_75 ?_
    refine lv_aload_n hx hb dX8_gives_76 rfl (lv_at hl 1 rfl) ?_
    refine lv_iload_n hx hb dX8_gives_77 rfl (lv_at hl 2 rfl) ?_
    refine lv_iconst (v := 1) hx hb dX8_gives_78 (by decide) ?_
    refine lv_iadd hx hb dX8_gives_79 ?_
    obtain ⟨hi3, hf⟩ := gi_e hf
    refine va_iald hx hb hK hP 0 0 rfl rfl hi3 dX8_gives_80 ?_
    refine lv_isub hx hb dX8_gives_81 ?_
    obtain ⟨hi4, hf⟩ := gi_e hf
    refine va_iast hx hb hK hP hD hS 0 0 rfl rfl hi4 dX8_gives_82 (fun H locs hP hD hS => ?_)
    obtain ⟨tt_82, hP, hD, hf⟩ := st_nm (ws := fun tt_82 : Nat → Int32 => (wA cs a 362 tt_82)) (upd tt ((x3 + (2 : Int32))).toNatClampNeg (((tt ((x3 + (2 : Int32))).toNatClampNeg) - (tt ((x2 + (1 : Int32))).toNatClampNeg)))) hP hD hf
    refine lv_aload_n hx hb dX8_gives_83 rfl (lv_at hl 1 rfl) ?_
    refine lv_iconst (v := 0) hx hb dX8_gives_84 (by decide) ?_
    refine lv_ldc (v := 99999) hx hb hown (hts (.constant RX8 56 (99999)) (by decide +kernel)) dX8_gives_85 ?_
    refine lv_aload_n hx hb dX8_gives_87 rfl (lv_at hl 1 rfl) ?_
    refine lv_iconst (v := 0) hx hb dX8_gives_88 (by decide) ?_
    obtain ⟨hi5, hf⟩ := gi_e hf
    refine va_iald hx hb hK hP 0 0 rfl rfl hi5 dX8_gives_89 ?_
    refine lv_aload_n hx hb dX8_gives_90 rfl (lv_at hl 1 rfl) ?_
    refine lv_iload_n hx hb dX8_gives_91 rfl (lv_at hl 2 rfl) ?_
    refine lv_iconst (v := 1) hx hb dX8_gives_92 (by decide) ?_
    refine lv_iadd hx hb dX8_gives_93 ?_
    obtain ⟨hi6, hf⟩ := gi_e hf
    refine va_iald hx hb hK hP 0 0 rfl rfl hi6 dX8_gives_94 ?_
    refine lv_iadd hx hb dX8_gives_95 ?_
    obtain ⟨r96, hr96, hf⟩ := bn_e hf
    have hPc := hP.sub (ws' := ([] : va_W)) [] rfl
    refine vp_callSi (W.runS (As := [.int ((99999 : Int32)), .int (((tt_82 ((0 : Int32)).toNatClampNeg) + (tt_82 ((x2 + (1 : Int32))).toNatClampNeg)))]) (rest := [.int ((0 : Int32)), .ref a]) C (c_X8_least l dC dI cs (99999 : Int32) ((tt_82 ((0 : Int32)).toNatClampNeg) + (tt_82 ((x2 + (1 : Int32))).toNatClampNeg)) r96 hr96) (va_cwS 2 hts gX8_gives_X8_least rfl rfl rfl (by decide +kernel) ⟨Nat.le_of_ble_eq_true rfl, Nat.le_of_ble_eq_true rfl⟩) ⟨(fun a U g mk q => ⟨q.1, q.2.1, GE.calling q.2.2⟩), (fun U hU hW => ⟨rfl, by rw [hU]; exact hPc, GE.warm hW G⟩)⟩ rfl rfl hl.1 rfl (lv_room (Nat.le_of_ble_eq_true rfl)) dX8_gives_96 ⟨Nat.le_of_ble_eq_true rfl, Nat.le_of_ble_eq_true rfl⟩) (fun qr96 hqr96 => ?_)
    obtain rfl := hqr96.symm
    obtain ⟨hi7, hf⟩ := gi_e hf
    refine va_iast hx hb hK hP hD hS 0 0 rfl rfl hi7 dX8_gives_99 (fun H locs hP hD hS => ?_)
    obtain ⟨tt_99, hP, hD, hf⟩ := st_nm (ws := fun tt_99 : Nat → Int32 => (wA cs a 362 tt_99)) (upd tt_82 ((0 : Int32)).toNatClampNeg (r96)) hP hD hf
    refine lv_aload_n hx hb dX8_gives_100 rfl (lv_at hl 1 rfl) ?_
    refine lv_iload_n hx hb dX8_gives_101 rfl (lv_at hl 2 rfl) ?_
    refine lv_iconst (v := 4) hx hb dX8_gives_102 (by decide) ?_
    refine lv_iadd hx hb dX8_gives_103 ?_
    refine lv_dup2_11 hx hb dX8_gives_104 rfl rfl ?_
    obtain ⟨hi8, hf⟩ := gi_e hf
    refine va_iald hx hb hK hP 0 0 rfl rfl hi8 dX8_gives_105 ?_
    refine lv_iconst (v := 1) hx hb dX8_gives_106 (by decide) ?_
    refine lv_iadd hx hb dX8_gives_107 ?_
    obtain ⟨hi9, hf⟩ := gi_e hf
    refine va_iast hx hb hK hP hD hS 0 0 rfl rfl hi9 dX8_gives_108 (fun H locs hP hD hS => ?_)
    obtain ⟨tt_108, hP, hD, hf⟩ := st_nm (ws := fun tt_108 : Nat → Int32 => (wA cs a 362 tt_108)) (upd tt_99 ((x2 + (4 : Int32))).toNatClampNeg (((tt_99 ((x2 + (4 : Int32))).toNatClampNeg) + (1 : Int32)))) hP hD hf
    refine lv_aload_n hx hb dX8_gives_109 rfl (lv_at hl 1 rfl) ?_
    refine lv_iload_n hx hb dX8_gives_110 rfl (lv_at hl 2 rfl) ?_
    refine lv_iconst (v := 3) hx hb dX8_gives_111 (by decide) ?_
    refine lv_iadd hx hb dX8_gives_112 ?_
    refine lv_aload_n hx hb dX8_gives_113 rfl (lv_at hl 1 rfl) ?_
    refine lv_iload_n hx hb dX8_gives_114 rfl (lv_at hl 2 rfl) ?_
    refine lv_iconst (v := 4) hx hb dX8_gives_115 (by decide) ?_
    refine lv_iadd hx hb dX8_gives_116 ?_
    obtain ⟨hi10, hf⟩ := gi_e hf
    refine va_iald hx hb hK hP 0 0 rfl rfl hi10 dX8_gives_117 ?_
    refine lv_aload_n hx hb dX8_gives_118 rfl (lv_at hl 1 rfl) ?_
    refine lv_iload_n hx hb dX8_gives_119 rfl (lv_at hl 2 rfl) ?_
    refine lv_iconst (v := 2) hx hb dX8_gives_120 (by decide) ?_
    refine lv_iadd hx hb dX8_gives_121 ?_
    obtain ⟨hi11, hf⟩ := gi_e hf
    refine va_iald hx hb hK hP 0 0 rfl rfl hi11 dX8_gives_122 ?_
    refine lv_icmp_ne (tgt := 130) hx hb dX8_gives_123 (by decide) (fun c12 => ?_) (fun c12 => ?_)
    · replace hf := it_f c12 hf
      refine lv_iconst (v := 0) hx hb dX8_gives_130 (by decide) ?_
      obtain ⟨hi13, hf⟩ := gi_e hf
      refine va_iast hx hb hK hP hD hS 0 0 rfl rfl hi13 dX8_gives_131 (fun H locs hP hD hS => ?_)
      obtain ⟨tt_131, hP, hD, hf⟩ := st_nm (ws := fun tt_131 : Nat → Int32 => (wA cs a 362 tt_131)) (upd tt_108 ((x2 + (3 : Int32))).toNatClampNeg ((0 : Int32))) hP hD hf
      exact hR _ _ _ _ _ dX8_gives_132 hf hP hD hS
    · replace hf := it_t c12 hf
      refine lv_iconst (v := 3) hx hb dX8_gives_126 (by decide) ?_
      refine lv_goto (tgt := 131) hx hb dX8_gives_127 (by decide) ?_
      obtain ⟨hi14, hf⟩ := gi_e hf
      refine va_iast hx hb hK hP hD hS 0 0 rfl rfl hi14 dX8_gives_131 (fun H locs hP hD hS => ?_)
      obtain ⟨tt_131, hP, hD, hf⟩ := st_nm (ws := fun tt_131 : Nat → Int32 => (wA cs a 362 tt_131)) (upd tt_108 ((x2 + (3 : Int32))).toNatClampNeg ((3 : Int32))) hP hD hf
      exact hR _ _ _ _ _ dX8_gives_132 hf hP hD hS
  · replace hf := it_t c1 hf
    refine lv_aload_n hx hb dX8_gives_63 rfl (lv_at hl 1 rfl) ?_
    refine lv_iload_n hx hb dX8_gives_64 rfl (lv_at hl 2 rfl) ?_
    refine lv_iconst (v := 3) hx hb dX8_gives_65 (by decide) ?_
    refine lv_iadd hx hb dX8_gives_66 ?_
    refine lv_iconst (v := 2) hx hb dX8_gives_67 (by decide) ?_
    obtain ⟨hi15, hf⟩ := gi_e hf
    refine va_iast hx hb hK hP hD hS 0 0 rfl rfl hi15 dX8_gives_68 (fun H locs hP hD hS => ?_)
    obtain ⟨tt_68, hP, hD, hf⟩ := st_nm (ws := fun tt_68 : Nat → Int32 => (wA cs a 362 tt_68)) (upd tt ((x2 + (3 : Int32))).toNatClampNeg ((2 : Int32))) hP hD hf
    exact hR _ _ _ _ _ dX8_gives_69 hf hP hD hS
def f_X8_gives_51 (x2 : Int32) (x3 : Int32) (tt : Nat → Int32)  : Option ((Nat → Int32)) :=
  f_X8_gives_56 x2 x3 (1 : Int32) tt
set_option maxHeartbeats 4000000 in
set_option maxRecDepth 100000 in
theorem b_X8_gives_51 {p : Program} {l : Launch} {e : Env} {s : State} {m : MethodId} {args : Array Value} {below : List Frame} {meth : Method} {c : Code} {Q : State → Prop} {dC : Nat → ClassId} {dI : Nat → Nat → Nat} {cs : Nat → ClassId} {A : Nat → Prop} {a : Nat} {res : (Nat → Int32)} (C : CallFix p m c cX8_gives 5 s args wsX8_gives RX8) (G : GE dC dI cs s) (hA : ∀ q : Nat, s.heap.size ≤ q → A q) (hR : RTv p l e ({ frames := 1, cells := 0, slots := 0, locals := 21 }) s m args below meth c cX8_gives Q (dC, dI) A (fun u : (Nat → Int32) => (wA cs a 362 u)) res) (x2 : Int32) (x3 : Int32) (tt : Nat → Int32)   (H : Heap) (locs : List Loc) (ls : Array Slot) (hl : lv_has ls 5 [(0, .ref a), (2, .int (x2)), (3, .int (x3))]) (hP : va_P (dC, dI) vwCl (wA cs a 362 tt) H) (hD : va_D A (wA cs a 362 tt)) (hS : va_S A s.heap H locs) (hf : f_X8_gives_51 x2 x3 tt = some res) : W p l e ({ frames := 1, cells := 0, slots := 0, locals := 21 }) s m args below meth c H locs 0 0 Q (F0 m 51 ls []) := by
  obtain ⟨hx, hb, hml, hown, hts⟩ := id C
  obtain ⟨hK, hN⟩ := id G
  unfold f_X8_gives_51 at hf
  refine lv_iconst (v := 1) hx hb dX8_gives_51 (by decide) ?_
  refine lv_goto (tgt := 56) hx hb dX8_gives_52 (by decide) ?_
  exact b_X8_gives_56 C G hA hR x2 x3 (1 : Int32) tt _ _ _ (lv_sub hl [0, 1, 2] rfl) hP hD hS hf
def f_X8_gives_55 (x2 : Int32) (x3 : Int32) (tt : Nat → Int32)  : Option ((Nat → Int32)) :=
  f_X8_gives_56 x2 x3 (0 : Int32) tt
set_option maxHeartbeats 4000000 in
set_option maxRecDepth 100000 in
theorem b_X8_gives_55 {p : Program} {l : Launch} {e : Env} {s : State} {m : MethodId} {args : Array Value} {below : List Frame} {meth : Method} {c : Code} {Q : State → Prop} {dC : Nat → ClassId} {dI : Nat → Nat → Nat} {cs : Nat → ClassId} {A : Nat → Prop} {a : Nat} {res : (Nat → Int32)} (C : CallFix p m c cX8_gives 5 s args wsX8_gives RX8) (G : GE dC dI cs s) (hA : ∀ q : Nat, s.heap.size ≤ q → A q) (hR : RTv p l e ({ frames := 1, cells := 0, slots := 0, locals := 21 }) s m args below meth c cX8_gives Q (dC, dI) A (fun u : (Nat → Int32) => (wA cs a 362 u)) res) (x2 : Int32) (x3 : Int32) (tt : Nat → Int32)   (H : Heap) (locs : List Loc) (ls : Array Slot) (hl : lv_has ls 5 [(0, .ref a), (2, .int (x2)), (3, .int (x3))]) (hP : va_P (dC, dI) vwCl (wA cs a 362 tt) H) (hD : va_D A (wA cs a 362 tt)) (hS : va_S A s.heap H locs) (hf : f_X8_gives_55 x2 x3 tt = some res) : W p l e ({ frames := 1, cells := 0, slots := 0, locals := 21 }) s m args below meth c H locs 0 0 Q (F0 m 55 ls []) := by
  obtain ⟨hx, hb, hml, hown, hts⟩ := id C
  obtain ⟨hK, hN⟩ := id G
  unfold f_X8_gives_55 at hf
  refine lv_iconst (v := 0) hx hb dX8_gives_55 (by decide) ?_
  exact b_X8_gives_56 C G hA hR x2 x3 (0 : Int32) tt _ _ _ (lv_sub hl [0, 1, 2] rfl) hP hD hS hf
def f_X8_gives (x1 : Int32) (tt : Nat → Int32) : Option ((Nat → Int32)) :=
  lett ((26 : Int32) + ((5 : Int32) * x1)) fun x2_6 =>
  gi (x2_6) 362 <|
  lett ((8 : Int32) + ((3 : Int32) * (tt (x2_6).toNatClampNeg))) fun x3_15 =>
  gi ((x3_15 + (2 : Int32))) 362 <|
  gi ((x2_6 + (1 : Int32))) 362 <|
  if (tt ((x3_15 + (2 : Int32))).toNatClampNeg) < (tt ((x2_6 + (1 : Int32))).toNatClampNeg) then (
    f_X8_gives_55 x2_6 x3_15 tt
  ) else (
    gi (x3_15) 362 <|
    if (tt (x3_15).toNatClampNeg) = (5 : Int32) then (
      gi ((x3_15 + (2 : Int32))) 362 <|
      gi ((x2_6 + (1 : Int32))) 362 <|
      if (tt ((x3_15 + (2 : Int32))).toNatClampNeg) < ((2 : Int32) * (tt ((x2_6 + (1 : Int32))).toNatClampNeg)) then (
        f_X8_gives_55 x2_6 x3_15 tt
      ) else (
        f_X8_gives_51 x2_6 x3_15 tt
      )
    ) else (
      f_X8_gives_51 x2_6 x3_15 tt
    )
  )
set_option maxHeartbeats 4000000 in
set_option maxRecDepth 100000 in
theorem c_X8_gives (l : Launch) (dC : Nat → ClassId) (dI : Nat → Nat → Nat) (cs : Nat → ClassId) (a : Nat) (sz : Nat) (tt : Nat → Int32) (x1 : Int32) (res : (Nat → Int32)) (hf : f_X8_gives x1 tt = some res) : Met l yX8_gives wsX8_gives ({ frames := 1, cells := 0, slots := 0, locals := 21 }) (va_Pc [.ref a, .int (x1)] (fun U => U.heap.size = sz ∧ va_P (dC, dI) vwCl (wA cs a 362 tt) U.heap ∧ GE dC dI cs U ∧ va_D (fun _ => True) (wA cs a 362 tt))) (va_Qv (fun u : (Nat → Int32) => u = res) (fun u t => va_P (dC, dI) vwCl ((fun u : (Nat → Int32) => (wA cs a 362 u)) u) t.heap ∧ va_D (va_A (wA cs a 362 tt) sz) ((fun u : (Nat → Int32) => (wA cs a 362 u)) u)) (va_A (wA cs a 362 tt) sz)) 0 0 (va_A (wA cs a 362 tt) sz) := by
  refine Met.ofW (cc := cX8_gives) (maxL := 5) (ret := none) (by decide) rfl ?_
  intro p e s m args below meth c s₁ Bd hml hv
  obtain ⟨rfl, hsz, hP, G, hD0⟩ := hv
  have hts := atoms_spec (ws := wsX8_gives) Bd.pre
  have hown : s.vm.findClass RX8 = some m.cls := findClass_of_methodNamed Bd.named
  have hlocks := Bd.notSynchronized
  have hx := Bd.exec
  have hb := Bd.bytes
  have hr := Bd.returns
  have C : CallFix p m c cX8_gives 5 s _ wsX8_gives RX8 := ⟨hx, hb, hml, hown, hts⟩
  obtain ⟨hK, hN⟩ := id G
  subst hsz
  have hD := hD0.self (sz := s.heap.size)
  generalize hAe : va_A (wA cs a 362 tt) s.heap.size = A at hD ⊢
  have hA : ∀ q : Nat, s.heap.size ≤ q → A q := fun q h => by rw [← hAe]; exact Or.inr h
  have hS : va_S A s.heap s.heap [] := va_S.rf
  have hR : RTv p l e ({ frames := 1, cells := 0, slots := 0, locals := 21 }) s m ([.ref a, .int (x1)] : List Value).toArray below meth c cX8_gives (MQ below (va_Qv (fun u : (Nat → Int32) => u = res) (fun u t => va_P (dC, dI) vwCl ((fun u : (Nat → Int32) => (wA cs a 362 u)) u) t.heap ∧ va_D A ((fun u : (Nat → Int32) => (wA cs a 362 u)) u)) A) ([.ref a, .int (x1)] : List Value).toArray s 0 0 A) (dC, dI) A (fun u : (Nat → Int32) => (wA cs a 362 u)) res := fun H locs pc ls u dd h hP hD hS => W.vret hx hb hr (fun t ht hW => ⟨⟨u, rfl, by cases h; rfl, by rw [ht]; exact hP, hD⟩, hS.F ht⟩) hS.2.2 dd
  have hl := lv_entry ([.ref a, .int (x1)]) (n := 5) (Nat.le_of_ble_eq_true rfl)
  rw [lg_entry_eq]
  generalize (lg_sl ([.ref a, .int (x1)]) ++ List.replicate (5 - (lg_sl ([.ref a, .int (x1)])).length) Slot.unset).toArray = ls at hl ⊢
  have hl : lv_has ls 5 [(0, .ref a), (1, .int (x1))] := hl
  unfold f_X8_gives at hf
  refine lv_bipush (v := 26) hx hb dX8_gives_0 (by decide) ?_
  refine lv_iconst (v := 5) hx hb dX8_gives_2 (by decide) ?_
  refine lv_iload_n hx hb dX8_gives_3 rfl (lv_at hl 1 rfl) ?_
  refine lv_imul hx hb dX8_gives_4 ?_
  refine lv_iadd hx hb dX8_gives_5 ?_
  refine lv_topi (fun x2_6 ex2_6 => ?_)
  replace hf := lett_s ex2_6 hf
  refine lv_istore_n (lv' := [(2, .int (x2_6)), (0, .ref a), (1, .int (x1))]) hx hb dX8_gives_6 rfl hl (by decide) rfl (fun ls hl => ?_)
  refine lv_bipush (v := 8) hx hb dX8_gives_7 (by decide) ?_
  refine lv_iconst (v := 3) hx hb dX8_gives_9 (by decide) ?_
  refine lv_aload_n hx hb dX8_gives_10 rfl (lv_at hl 1 rfl) ?_
  refine lv_iload_n hx hb dX8_gives_11 rfl (lv_at hl 0 rfl) ?_
  obtain ⟨hi1, hf⟩ := gi_e hf
  refine va_iald hx hb hK hP 0 0 rfl rfl hi1 dX8_gives_12 ?_
  refine lv_imul hx hb dX8_gives_13 ?_
  refine lv_iadd hx hb dX8_gives_14 ?_
  refine lv_topi (fun x3_15 ex3_15 => ?_)
  replace hf := lett_s ex3_15 hf
  refine lv_istore_n (lv' := [(3, .int (x3_15)), (2, .int (x2_6)), (0, .ref a), (1, .int (x1))]) hx hb dX8_gives_15 rfl hl (by decide) rfl (fun ls hl => ?_)
  refine lv_aload_n hx hb dX8_gives_16 rfl (lv_at hl 2 rfl) ?_
  refine lv_iload_n hx hb dX8_gives_17 rfl (lv_at hl 0 rfl) ?_
  refine lv_iconst (v := 2) hx hb dX8_gives_18 (by decide) ?_
  refine lv_iadd hx hb dX8_gives_19 ?_
  obtain ⟨hi2, hf⟩ := gi_e hf
  refine va_iald hx hb hK hP 0 0 rfl rfl hi2 dX8_gives_20 ?_
  refine lv_aload_n hx hb dX8_gives_21 rfl (lv_at hl 2 rfl) ?_
  refine lv_iload_n hx hb dX8_gives_22 rfl (lv_at hl 1 rfl) ?_
  refine lv_iconst (v := 1) hx hb dX8_gives_23 (by decide) ?_
  refine lv_iadd hx hb dX8_gives_24 ?_
  obtain ⟨hi3, hf⟩ := gi_e hf
  refine va_iald hx hb hK hP 0 0 rfl rfl hi3 dX8_gives_25 ?_
  refine lv_icmp_lt (tgt := 55) hx hb dX8_gives_26 (by decide) (fun c4 => ?_) (fun c4 => ?_)
  · replace hf := it_t c4 hf
    exact b_X8_gives_55 C G hA hR x2_6 x3_15 tt _ _ _ (lv_sub hl [2, 1, 0] rfl) hP hD hS hf
  · replace hf := it_f c4 hf
    refine lv_aload_n hx hb dX8_gives_29 rfl (lv_at hl 2 rfl) ?_
    refine lv_iload_n hx hb dX8_gives_30 rfl (lv_at hl 0 rfl) ?_
    obtain ⟨hi5, hf⟩ := gi_e hf
    refine va_iald hx hb hK hP 0 0 rfl rfl hi5 dX8_gives_31 ?_
    refine lv_iconst (v := 5) hx hb dX8_gives_32 (by decide) ?_
    refine lv_icmp_ne (tgt := 51) hx hb dX8_gives_33 (by decide) (fun c6 => ?_) (fun c6 => ?_)
    · replace hf := it_f c6 hf
      exact b_X8_gives_51 C G hA hR x2_6 x3_15 tt _ _ _ (lv_sub hl [2, 1, 0] rfl) hP hD hS hf
    · replace hf := it_t c6 hf
      refine lv_aload_n hx hb dX8_gives_36 rfl (lv_at hl 2 rfl) ?_
      refine lv_iload_n hx hb dX8_gives_37 rfl (lv_at hl 0 rfl) ?_
      refine lv_iconst (v := 2) hx hb dX8_gives_38 (by decide) ?_
      refine lv_iadd hx hb dX8_gives_39 ?_
      obtain ⟨hi7, hf⟩ := gi_e hf
      refine va_iald hx hb hK hP 0 0 rfl rfl hi7 dX8_gives_40 ?_
      refine lv_iconst (v := 2) hx hb dX8_gives_41 (by decide) ?_
      refine lv_aload_n hx hb dX8_gives_42 rfl (lv_at hl 2 rfl) ?_
      refine lv_iload_n hx hb dX8_gives_43 rfl (lv_at hl 1 rfl) ?_
      refine lv_iconst (v := 1) hx hb dX8_gives_44 (by decide) ?_
      refine lv_iadd hx hb dX8_gives_45 ?_
      obtain ⟨hi8, hf⟩ := gi_e hf
      refine va_iald hx hb hK hP 0 0 rfl rfl hi8 dX8_gives_46 ?_
      refine lv_imul hx hb dX8_gives_47 ?_
      refine lv_icmp_lt (tgt := 55) hx hb dX8_gives_48 (by decide) (fun c9 => ?_) (fun c9 => ?_)
      · replace hf := it_t c9 hf
        exact b_X8_gives_55 C G hA hR x2_6 x3_15 tt _ _ _ (lv_sub hl [2, 1, 0] rfl) hP hD hS hf
      · replace hf := it_f c9 hf
        exact b_X8_gives_51 C G hA hR x2_6 x3_15 tt _ _ _ (lv_sub hl [2, 1, 0] rfl) hP hD hS hf

def f_X8_whole (x1 : Int32) (tt : Nat → Int32) : Option Int32 :=
  gi ((((26 : Int32) + ((5 : Int32) * x1)) + (1 : Int32))) 362 <|
  gi ((((26 : Int32) + ((5 : Int32) * x1)) + (2 : Int32))) 362 <|
  lett ((tt ((((26 : Int32) + ((5 : Int32) * x1)) + (1 : Int32))).toNatClampNeg) * (tt ((((26 : Int32) + ((5 : Int32) * x1)) + (2 : Int32))).toNatClampNeg)) fun x2_21 =>
  gi ((1 : Int32)) 362 <|
  some (x2_21 + ((x2_21 * (tt ((1 : Int32)).toNatClampNeg)) / (100 : Int32)))
set_option maxHeartbeats 4000000 in
set_option maxRecDepth 100000 in
theorem c_X8_whole (l : Launch) (dC : Nat → ClassId) (dI : Nat → Nat → Nat) (cs : Nat → ClassId) (a : Nat) (tt : Nat → Int32) (x1 : Int32) (res : Int32) (hf : f_X8_whole x1 tt = some res) : Met l yX8_whole wsX8_whole ({ frames := 0, cells := 0, slots := 0, locals := 0 }) (va_Pc [.ref a, .int (x1)] (fun U => va_P (dC, dI) vwCl (wA cs a 362 tt) U.heap ∧ GE dC dI cs U)) (vp_Si (fun r => r = res)) 0 0 (fun _ => False) := by
  refine Met.ofW (cc := cX8_whole) (maxL := 3) (ret := (some .int)) (by decide) rfl ?_
  intro p e s m args below meth c s₁ Bd hml hv
  obtain ⟨rfl, hP, G⟩ := hv
  have hts := atoms_spec (ws := wsX8_whole) Bd.pre
  have hown : s.vm.findClass RX8 = some m.cls := findClass_of_methodNamed Bd.named
  have hlocks := Bd.notSynchronized
  have hx := Bd.exec
  have hb := Bd.bytes
  have hr := Bd.returns
  have C : CallFix p m c cX8_whole 3 s _ wsX8_whole RX8 := ⟨hx, hb, hml, hown, hts⟩
  obtain ⟨hK, hN⟩ := id G
  have hR : RPi p l e ({ frames := 0, cells := 0, slots := 0, locals := 0 }) s m ([.ref a, .int (x1)] : List Value).toArray below meth c cX8_whole (MQ below (vp_Si (fun r => r = res)) ([.ref a, .int (x1)] : List Value).toArray s 0 0 (fun _ => False)) res := fun pc ls r dd h => W.iret hx hb hr (fun t ht hW => ⟨r, rfl, Option.some.inj h, ht⟩) (fun q hq => by cases hq) dd
  have hl := lv_entry ([.ref a, .int (x1)]) (n := 3) (Nat.le_of_ble_eq_true rfl)
  rw [lg_entry_eq]
  generalize (lg_sl ([.ref a, .int (x1)]) ++ List.replicate (3 - (lg_sl ([.ref a, .int (x1)])).length) Slot.unset).toArray = ls at hl ⊢
  have hl : lv_has ls 3 [(0, .ref a), (1, .int (x1))] := hl
  unfold f_X8_whole at hf
  refine lv_aload_n hx hb dX8_whole_0 rfl (lv_at hl 0 rfl) ?_
  refine lv_bipush (v := 26) hx hb dX8_whole_1 (by decide) ?_
  refine lv_iconst (v := 5) hx hb dX8_whole_3 (by decide) ?_
  refine lv_iload_n hx hb dX8_whole_4 rfl (lv_at hl 1 rfl) ?_
  refine lv_imul hx hb dX8_whole_5 ?_
  refine lv_iadd hx hb dX8_whole_6 ?_
  refine lv_iconst (v := 1) hx hb dX8_whole_7 (by decide) ?_
  refine lv_iadd hx hb dX8_whole_8 ?_
  obtain ⟨hi1, hf⟩ := gi_e hf
  refine va_iald hx hb hK hP 0 0 rfl rfl hi1 dX8_whole_9 ?_
  refine lv_aload_n hx hb dX8_whole_10 rfl (lv_at hl 0 rfl) ?_
  refine lv_bipush (v := 26) hx hb dX8_whole_11 (by decide) ?_
  refine lv_iconst (v := 5) hx hb dX8_whole_13 (by decide) ?_
  refine lv_iload_n hx hb dX8_whole_14 rfl (lv_at hl 1 rfl) ?_
  refine lv_imul hx hb dX8_whole_15 ?_
  refine lv_iadd hx hb dX8_whole_16 ?_
  refine lv_iconst (v := 2) hx hb dX8_whole_17 (by decide) ?_
  refine lv_iadd hx hb dX8_whole_18 ?_
  obtain ⟨hi2, hf⟩ := gi_e hf
  refine va_iald hx hb hK hP 0 0 rfl rfl hi2 dX8_whole_19 ?_
  refine lv_imul hx hb dX8_whole_20 ?_
  refine lv_topi (fun x2_21 ex2_21 => ?_)
  replace hf := lett_s ex2_21 hf
  refine lv_istore_n (lv' := [(2, .int (x2_21)), (0, .ref a), (1, .int (x1))]) hx hb dX8_whole_21 rfl hl (by decide) rfl (fun ls hl => ?_)
  refine lv_iload_n hx hb dX8_whole_22 rfl (lv_at hl 0 rfl) ?_
  refine lv_iload_n hx hb dX8_whole_23 rfl (lv_at hl 0 rfl) ?_
  refine lv_aload_n hx hb dX8_whole_24 rfl (lv_at hl 1 rfl) ?_
  refine lv_iconst (v := 1) hx hb dX8_whole_25 (by decide) ?_
  obtain ⟨hi3, hf⟩ := gi_e hf
  refine va_iald hx hb hK hP 0 0 rfl rfl hi3 dX8_whole_26 ?_
  refine lv_imul hx hb dX8_whole_27 ?_
  refine lv_bipush (v := 100) hx hb dX8_whole_28 (by decide) ?_
  refine lv_idiv hx hb dX8_whole_30 (by decide) ?_
  refine lv_iadd hx hb dX8_whole_31 ?_
  exact hR _ _ _ dX8_whole_32 hf

def f_X8_pays (x1 : Int32) (tt : Nat → Int32) : Option (Int32 × (Nat → Int32)) :=
  bn (f_X8_whole x1 tt) fun r2 =>
  gi ((0 : Int32)) 362 <|
  if r2 ≤ (tt ((0 : Int32)).toNatClampNeg) then (
    gi (((26 : Int32) + ((5 : Int32) * x1))) 362 <|
    lett (((8 : Int32) + ((3 : Int32) * (tt (((26 : Int32) + ((5 : Int32) * x1))).toNatClampNeg))) + (2 : Int32)) fun x3_38 =>
    gi ((0 : Int32)) 362 <|
    gi ((0 : Int32)) 362 <|
    lett (upd tt ((0 : Int32)).toNatClampNeg (((tt ((0 : Int32)).toNatClampNeg) - r2))) fun tt_45 =>
    gi (x3_38) 362 <|
    bn (f_X8_least (9999 : Int32) ((tt_45 (x3_38).toNatClampNeg) + r2)) fun r56 =>
    gi (x3_38) 362 <|
    lett (upd tt_45 (x3_38).toNatClampNeg (r56)) fun tt_59 =>
    gi ((((26 : Int32) + ((5 : Int32) * x1)) + (3 : Int32))) 362 <|
    lett (upd tt_59 ((((26 : Int32) + ((5 : Int32) * x1)) + (3 : Int32))).toNatClampNeg ((1 : Int32))) fun tt_70 =>
    some ((1 : Int32), tt_70)
  ) else (
    gi ((6 : Int32)) 362 <|
    gi ((6 : Int32)) 362 <|
    lett (upd tt ((6 : Int32)).toNatClampNeg (((tt ((6 : Int32)).toNatClampNeg) + (1 : Int32)))) fun tt_20 =>
    some ((0 : Int32), tt_20)
  )
set_option maxHeartbeats 4000000 in
set_option maxRecDepth 100000 in
theorem c_X8_pays (l : Launch) (dC : Nat → ClassId) (dI : Nat → Nat → Nat) (cs : Nat → ClassId) (a : Nat) (sz : Nat) (tt : Nat → Int32) (x1 : Int32) (res : Int32 × (Nat → Int32)) (hf : f_X8_pays x1 tt = some res) : Met l yX8_pays wsX8_pays ({ frames := 1, cells := 0, slots := 0, locals := 22 }) (va_Pc [.ref a, .int (x1)] (fun U => U.heap.size = sz ∧ va_P (dC, dI) vwCl (wA cs a 362 tt) U.heap ∧ GE dC dI cs U ∧ va_D (fun _ => True) (wA cs a 362 tt))) (va_Qi (fun r (u : (Nat → Int32)) => r = res.1 ∧ u = res.2 ∧ narrow .boolean (.int r) = .int r) (fun u t => va_P (dC, dI) vwCl ((fun u : (Nat → Int32) => (wA cs a 362 u)) u) t.heap ∧ va_D (va_A (wA cs a 362 tt) sz) ((fun u : (Nat → Int32) => (wA cs a 362 u)) u)) (va_A (wA cs a 362 tt) sz)) 0 0 (va_A (wA cs a 362 tt) sz) := by
  refine Met.ofW (cc := cX8_pays) (maxL := 4) (ret := (some .boolean)) (by decide) rfl ?_
  intro p e s m args below meth c s₁ Bd hml hv
  obtain ⟨rfl, hsz, hP, G, hD0⟩ := hv
  have hts := atoms_spec (ws := wsX8_pays) Bd.pre
  have hown : s.vm.findClass RX8 = some m.cls := findClass_of_methodNamed Bd.named
  have hlocks := Bd.notSynchronized
  have hx := Bd.exec
  have hb := Bd.bytes
  have hr := Bd.returns
  have C : CallFix p m c cX8_pays 4 s _ wsX8_pays RX8 := ⟨hx, hb, hml, hown, hts⟩
  obtain ⟨hK, hN⟩ := id G
  subst hsz
  have hD := hD0.self (sz := s.heap.size)
  generalize hAe : va_A (wA cs a 362 tt) s.heap.size = A at hD ⊢
  have hA : ∀ q : Nat, s.heap.size ≤ q → A q := fun q h => by rw [← hAe]; exact Or.inr h
  have hS : va_S A s.heap s.heap [] := va_S.rf
  have hR : RTz p l e ({ frames := 1, cells := 0, slots := 0, locals := 22 }) s m ([.ref a, .int (x1)] : List Value).toArray below meth c cX8_pays (MQ below (va_Qi (fun r (u : (Nat → Int32)) => r = res.1 ∧ u = res.2 ∧ narrow .boolean (.int r) = .int r) (fun u t => va_P (dC, dI) vwCl ((fun u : (Nat → Int32) => (wA cs a 362 u)) u) t.heap ∧ va_D A ((fun u : (Nat → Int32) => (wA cs a 362 u)) u)) A) ([.ref a, .int (x1)] : List Value).toArray s 0 0 A) (dC, dI) A (fun u : (Nat → Int32) => (wA cs a 362 u)) res := fun H locs pc ls r u dd hn h hP hD hS => W.zret hx hb hr hn (fun t ht hW => ⟨⟨r, u, rfl, by cases h; exact ⟨rfl, rfl, hn⟩, by rw [ht]; exact hP, hD⟩, hS.F ht⟩) hS.2.2 dd
  have hl := lv_entry ([.ref a, .int (x1)]) (n := 4) (Nat.le_of_ble_eq_true rfl)
  rw [lg_entry_eq]
  generalize (lg_sl ([.ref a, .int (x1)]) ++ List.replicate (4 - (lg_sl ([.ref a, .int (x1)])).length) Slot.unset).toArray = ls at hl ⊢
  have hl : lv_has ls 4 [(0, .ref a), (1, .int (x1))] := hl
  unfold f_X8_pays at hf
  refine lv_aload_n hx hb dX8_pays_0 rfl (lv_at hl 0 rfl) ?_
  refine lv_iload_n hx hb dX8_pays_1 rfl (lv_at hl 1 rfl) ?_
  obtain ⟨r2, hr2, hf⟩ := bn_e hf
  have hPc := hP.sub (ws' := (wA cs a 362 tt)) [0] rfl
  refine vp_callSi (W.runS (As := [.ref a, .int (x1)]) (rest := []) C (c_X8_whole l dC dI cs a tt x1 r2 hr2) (va_cwS 2 hts gX8_pays_X8_whole rfl rfl rfl (by decide +kernel) ⟨Nat.le_of_ble_eq_true rfl, Nat.le_of_ble_eq_true rfl⟩) ⟨(fun a U g mk q => ⟨q.1, q.2.1, GE.calling q.2.2⟩), (fun U hU hW => ⟨rfl, by rw [hU]; exact hPc, GE.warm hW G⟩)⟩ rfl rfl hl.1 rfl (lv_room (Nat.le_of_ble_eq_true rfl)) dX8_pays_2 ⟨Nat.le_of_ble_eq_true rfl, Nat.le_of_ble_eq_true rfl⟩) (fun qr2 hqr2 => ?_)
  obtain rfl := hqr2.symm
  refine lv_istore_n (lv' := [(2, .int (r2)), (0, .ref a), (1, .int (x1))]) hx hb dX8_pays_5 rfl hl (by decide) rfl (fun ls hl => ?_)
  refine lv_aload_n hx hb dX8_pays_6 rfl (lv_at hl 1 rfl) ?_
  refine lv_iconst (v := 0) hx hb dX8_pays_7 (by decide) ?_
  obtain ⟨hi1, hf⟩ := gi_e hf
  refine va_iald hx hb hK hP 0 0 rfl rfl hi1 dX8_pays_8 ?_
  refine lv_iload_n hx hb dX8_pays_9 rfl (lv_at hl 0 rfl) ?_
  refine lv_icmp_ge (tgt := 23) hx hb dX8_pays_10 (by decide) (fun c2 => ?_) (fun c2 => ?_)
  · replace hf := it_t c2 hf
    refine lv_bipush (v := 8) hx hb dX8_pays_23 (by decide) ?_
    refine lv_iconst (v := 3) hx hb dX8_pays_25 (by decide) ?_
    refine lv_aload_n hx hb dX8_pays_26 rfl (lv_at hl 1 rfl) ?_
    refine lv_bipush (v := 26) hx hb dX8_pays_27 (by decide) ?_
    refine lv_iconst (v := 5) hx hb dX8_pays_29 (by decide) ?_
    refine lv_iload_n hx hb dX8_pays_30 rfl (lv_at hl 2 rfl) ?_
    refine lv_imul hx hb dX8_pays_31 ?_
    refine lv_iadd hx hb dX8_pays_32 ?_
    obtain ⟨hi3, hf⟩ := gi_e hf
    refine va_iald hx hb hK hP 0 0 rfl rfl hi3 dX8_pays_33 ?_
    refine lv_imul hx hb dX8_pays_34 ?_
    refine lv_iadd hx hb dX8_pays_35 ?_
    refine lv_iconst (v := 2) hx hb dX8_pays_36 (by decide) ?_
    refine lv_iadd hx hb dX8_pays_37 ?_
    refine lv_topi (fun x3_38 ex3_38 => ?_)
    replace hf := lett_s ex3_38 hf
    refine lv_istore_n (lv' := [(3, .int (x3_38)), (2, .int (r2)), (0, .ref a), (1, .int (x1))]) hx hb dX8_pays_38 rfl hl (by decide) rfl (fun ls hl => ?_)
    refine lv_aload_n hx hb dX8_pays_39 rfl (lv_at hl 2 rfl) ?_
    refine lv_iconst (v := 0) hx hb dX8_pays_40 (by decide) ?_
    refine lv_dup2_11 hx hb dX8_pays_41 rfl rfl ?_
    obtain ⟨hi4, hf⟩ := gi_e hf
    refine va_iald hx hb hK hP 0 0 rfl rfl hi4 dX8_pays_42 ?_
    refine lv_iload_n hx hb dX8_pays_43 rfl (lv_at hl 1 rfl) ?_
    refine lv_isub hx hb dX8_pays_44 ?_
    obtain ⟨hi5, hf⟩ := gi_e hf
    refine va_iast hx hb hK hP hD hS 0 0 rfl rfl hi5 dX8_pays_45 (fun H locs hP hD hS => ?_)
    obtain ⟨tt_45, hP, hD, hf⟩ := st_nm (ws := fun tt_45 : Nat → Int32 => (wA cs a 362 tt_45)) (upd tt ((0 : Int32)).toNatClampNeg (((tt ((0 : Int32)).toNatClampNeg) - r2))) hP hD hf
    refine lv_aload_n hx hb dX8_pays_46 rfl (lv_at hl 2 rfl) ?_
    refine lv_iload_n hx hb dX8_pays_47 rfl (lv_at hl 0 rfl) ?_
    refine lv_sipush (v := 9999) hx hb dX8_pays_48 (by decide) ?_
    refine lv_aload_n hx hb dX8_pays_51 rfl (lv_at hl 2 rfl) ?_
    refine lv_iload_n hx hb dX8_pays_52 rfl (lv_at hl 0 rfl) ?_
    obtain ⟨hi6, hf⟩ := gi_e hf
    refine va_iald hx hb hK hP 0 0 rfl rfl hi6 dX8_pays_53 ?_
    refine lv_iload_n hx hb dX8_pays_54 rfl (lv_at hl 1 rfl) ?_
    refine lv_iadd hx hb dX8_pays_55 ?_
    obtain ⟨r56, hr56, hf⟩ := bn_e hf
    have hPc := hP.sub (ws' := ([] : va_W)) [] rfl
    refine vp_callSi (W.runS (As := [.int ((9999 : Int32)), .int (((tt_45 (x3_38).toNatClampNeg) + r2))]) (rest := [.int (x3_38), .ref a]) C (c_X8_least l dC dI cs (9999 : Int32) ((tt_45 (x3_38).toNatClampNeg) + r2) r56 hr56) (va_cwS 2 hts gX8_pays_X8_least rfl rfl rfl (by decide +kernel) ⟨Nat.le_of_ble_eq_true rfl, Nat.le_of_ble_eq_true rfl⟩) ⟨(fun a U g mk q => ⟨q.1, q.2.1, GE.calling q.2.2⟩), (fun U hU hW => ⟨rfl, by rw [hU]; exact hPc, GE.warm hW G⟩)⟩ rfl rfl hl.1 rfl (lv_room (Nat.le_of_ble_eq_true rfl)) dX8_pays_56 ⟨Nat.le_of_ble_eq_true rfl, Nat.le_of_ble_eq_true rfl⟩) (fun qr56 hqr56 => ?_)
    obtain rfl := hqr56.symm
    obtain ⟨hi7, hf⟩ := gi_e hf
    refine va_iast hx hb hK hP hD hS 0 0 rfl rfl hi7 dX8_pays_59 (fun H locs hP hD hS => ?_)
    obtain ⟨tt_59, hP, hD, hf⟩ := st_nm (ws := fun tt_59 : Nat → Int32 => (wA cs a 362 tt_59)) (upd tt_45 (x3_38).toNatClampNeg (r56)) hP hD hf
    refine lv_aload_n hx hb dX8_pays_60 rfl (lv_at hl 2 rfl) ?_
    refine lv_bipush (v := 26) hx hb dX8_pays_61 (by decide) ?_
    refine lv_iconst (v := 5) hx hb dX8_pays_63 (by decide) ?_
    refine lv_iload_n hx hb dX8_pays_64 rfl (lv_at hl 3 rfl) ?_
    refine lv_imul hx hb dX8_pays_65 ?_
    refine lv_iadd hx hb dX8_pays_66 ?_
    refine lv_iconst (v := 3) hx hb dX8_pays_67 (by decide) ?_
    refine lv_iadd hx hb dX8_pays_68 ?_
    refine lv_iconst (v := 1) hx hb dX8_pays_69 (by decide) ?_
    obtain ⟨hi8, hf⟩ := gi_e hf
    refine va_iast hx hb hK hP hD hS 0 0 rfl rfl hi8 dX8_pays_70 (fun H locs hP hD hS => ?_)
    obtain ⟨tt_70, hP, hD, hf⟩ := st_nm (ws := fun tt_70 : Nat → Int32 => (wA cs a 362 tt_70)) (upd tt_59 ((((26 : Int32) + ((5 : Int32) * x1)) + (3 : Int32))).toNatClampNeg ((1 : Int32))) hP hD hf
    refine lv_iconst (v := 1) hx hb dX8_pays_71 (by decide) ?_
    exact hR _ _ _ _ _ _ dX8_pays_72 (by decide) hf hP hD hS
  · replace hf := it_f c2 hf
    refine lv_aload_n hx hb dX8_pays_13 rfl (lv_at hl 1 rfl) ?_
    refine lv_bipush (v := 6) hx hb dX8_pays_14 (by decide) ?_
    refine lv_dup2_11 hx hb dX8_pays_16 rfl rfl ?_
    obtain ⟨hi9, hf⟩ := gi_e hf
    refine va_iald hx hb hK hP 0 0 rfl rfl hi9 dX8_pays_17 ?_
    refine lv_iconst (v := 1) hx hb dX8_pays_18 (by decide) ?_
    refine lv_iadd hx hb dX8_pays_19 ?_
    obtain ⟨hi10, hf⟩ := gi_e hf
    refine va_iast hx hb hK hP hD hS 0 0 rfl rfl hi10 dX8_pays_20 (fun H locs hP hD hS => ?_)
    obtain ⟨tt_20, hP, hD, hf⟩ := st_nm (ws := fun tt_20 : Nat → Int32 => (wA cs a 362 tt_20)) (upd tt ((6 : Int32)).toNatClampNeg (((tt ((6 : Int32)).toNatClampNeg) + (1 : Int32)))) hP hD hf
    refine lv_iconst (v := 0) hx hb dX8_pays_21 (by decide) ?_
    exact hR _ _ _ _ _ _ dX8_pays_22 (by decide) hf hP hD hS

def f_X8_month_119 (x1 : Int32) (x2 : Int32) (s1 : Int32) (s2 : Int32) (tt : Nat → Int32) (K2 : Int32 → (Nat → Int32) → Option (Int32 × (Nat → Int32))) : Option (Int32 × (Nat → Int32)) :=
  gi (s1) 362 <|
  lett (upd tt (s1).toNatClampNeg (s2)) fun tt_119 =>
  lett (x2 + 1) fun x2_120 =>
  K2 x2_120 tt_119
set_option maxHeartbeats 4000000 in
set_option maxRecDepth 100000 in
theorem b_X8_month_119 {p : Program} {l : Launch} {e : Env} {s : State} {m : MethodId} {args : Array Value} {below : List Frame} {meth : Method} {c : Code} {Q : State → Prop} {dC : Nat → ClassId} {dI : Nat → Nat → Nat} {cs : Nat → ClassId} {A : Nat → Prop} {a : Nat} {res : Int32 × (Nat → Int32)} (C : CallFix p m c cX8_month 6 s args wsX8_month RX8) (G : GE dC dI cs s) (hA : ∀ q : Nat, s.heap.size ≤ q → A q) (hR : RTi p l e ({ frames := 2, cells := 0, slots := 0, locals := 45 }) s m args below meth c cX8_month Q (dC, dI) A (fun u : (Nat → Int32) => (wA cs a 362 u)) res) (x1 : Int32) (x2 : Int32) (s1 : Int32) (s2 : Int32) (tt : Nat → Int32) {K2 : Int32 → (Nat → Int32) → Option (Int32 × (Nat → Int32))} (hK2 : ∀ (x2 : Int32) (tt : Nat → Int32) (H : Heap) (locs : List Loc) (ls : Array Slot), lv_has ls 6 [(0, .ref a), (1, .int (x1)), (2, .int (x2))] → va_P (dC, dI) vwCl (wA cs a 362 tt) H → va_D A (wA cs a 362 tt) → va_S A s.heap H locs → K2 x2 tt = some res → W p l e ({ frames := 2, cells := 0, slots := 0, locals := 45 }) s m args below meth c H locs 0 0 Q (F0 m 2 ls [])) (H : Heap) (locs : List Loc) (ls : Array Slot) (hl : lv_has ls 6 [(0, .ref a), (1, .int (x1)), (2, .int (x2))]) (hP : va_P (dC, dI) vwCl (wA cs a 362 tt) H) (hD : va_D A (wA cs a 362 tt)) (hS : va_S A s.heap H locs) (hf : f_X8_month_119 x1 x2 s1 s2 tt K2 = some res) : W p l e ({ frames := 2, cells := 0, slots := 0, locals := 45 }) s m args below meth c H locs 0 0 Q (F0 m 119 ls [.int (s2), .int (s1), .ref a]) := by
  obtain ⟨hx, hb, hml, hown, hts⟩ := id C
  obtain ⟨hK, hN⟩ := id G
  unfold f_X8_month_119 at hf
  obtain ⟨hi1, hf⟩ := gi_e hf
  refine va_iast hx hb hK hP hD hS 0 0 rfl rfl hi1 dX8_month_119 (fun H locs hP hD hS => ?_)
  obtain ⟨tt_119, hP, hD, hf⟩ := st_nm (ws := fun tt_119 : Nat → Int32 => (wA cs a 362 tt_119)) (upd tt (s1).toNatClampNeg (s2)) hP hD hf
  obtain ⟨x2_120, ex2_120⟩ : ∃ y : Int32, y = (x2 + 1) := ⟨_, rfl⟩
  replace hf := lett_s ex2_120 hf
  refine lv_iinc (v := x2_120) (lv' := [(2, .int (x2_120)), (0, .ref a), (1, .int (x1))]) hx hb dX8_month_120 hl (k := 2) rfl (by rw [ex2_120]; rfl) (by decide) rfl (fun ls hl => ?_)
  refine lv_goto (tgt := 2) hx hb dX8_month_123 (by decide) ?_
  exact hK2 x2_120 tt_119 _ _ _ (lv_sub hl [1, 2, 0] rfl) hP hD hS hf
def f_X8_month_93 (x1 : Int32) (x2 : Int32) (x3 : Int32) (s0 : Int32) (tt : Nat → Int32) (K2 : Int32 → (Nat → Int32) → Option (Int32 × (Nat → Int32))) : Option (Int32 × (Nat → Int32)) :=
  if s0 = 0 then (
    gi ((x3 + (2 : Int32))) 362 <|
    f_X8_month_119 x1 x2 (x3 + (2 : Int32)) (tt ((x3 + (2 : Int32))).toNatClampNeg) tt K2
  ) else (
    gi ((x3 + (2 : Int32))) 362 <|
    f_X8_month_119 x1 x2 (x3 + (2 : Int32)) ((tt ((x3 + (2 : Int32))).toNatClampNeg) / (2 : Int32)) tt K2
  )
set_option maxHeartbeats 4000000 in
set_option maxRecDepth 100000 in
theorem b_X8_month_93 {p : Program} {l : Launch} {e : Env} {s : State} {m : MethodId} {args : Array Value} {below : List Frame} {meth : Method} {c : Code} {Q : State → Prop} {dC : Nat → ClassId} {dI : Nat → Nat → Nat} {cs : Nat → ClassId} {A : Nat → Prop} {a : Nat} {res : Int32 × (Nat → Int32)} (C : CallFix p m c cX8_month 6 s args wsX8_month RX8) (G : GE dC dI cs s) (hA : ∀ q : Nat, s.heap.size ≤ q → A q) (hR : RTi p l e ({ frames := 2, cells := 0, slots := 0, locals := 45 }) s m args below meth c cX8_month Q (dC, dI) A (fun u : (Nat → Int32) => (wA cs a 362 u)) res) (x1 : Int32) (x2 : Int32) (x3 : Int32) (s0 : Int32) (tt : Nat → Int32) {K2 : Int32 → (Nat → Int32) → Option (Int32 × (Nat → Int32))} (hK2 : ∀ (x2 : Int32) (tt : Nat → Int32) (H : Heap) (locs : List Loc) (ls : Array Slot), lv_has ls 6 [(0, .ref a), (1, .int (x1)), (2, .int (x2))] → va_P (dC, dI) vwCl (wA cs a 362 tt) H → va_D A (wA cs a 362 tt) → va_S A s.heap H locs → K2 x2 tt = some res → W p l e ({ frames := 2, cells := 0, slots := 0, locals := 45 }) s m args below meth c H locs 0 0 Q (F0 m 2 ls [])) (H : Heap) (locs : List Loc) (ls : Array Slot) (hl : lv_has ls 6 [(0, .ref a), (1, .int (x1)), (2, .int (x2)), (3, .int (x3))]) (hP : va_P (dC, dI) vwCl (wA cs a 362 tt) H) (hD : va_D A (wA cs a 362 tt)) (hS : va_S A s.heap H locs) (hf : f_X8_month_93 x1 x2 x3 s0 tt K2 = some res) : W p l e ({ frames := 2, cells := 0, slots := 0, locals := 45 }) s m args below meth c H locs 0 0 Q (F0 m 93 ls [.int (s0)]) := by
  obtain ⟨hx, hb, hml, hown, hts⟩ := id C
  obtain ⟨hK, hN⟩ := id G
  unfold f_X8_month_93 at hf
  refine lv_istore (lv' := [(5, .int (s0)), (0, .ref a), (1, .int (x1)), (2, .int (x2)), (3, .int (x3))]) hx hb dX8_month_93 hl (by decide) rfl (fun ls hl => ?_)
  refine lv_aload_n hx hb dX8_month_95 rfl (lv_at hl 1 rfl) ?_
  refine lv_iload_n hx hb dX8_month_96 rfl (lv_at hl 4 rfl) ?_
  refine lv_iconst (v := 2) hx hb dX8_month_97 (by decide) ?_
  refine lv_iadd hx hb dX8_month_98 ?_
  refine lv_iload hx hb dX8_month_99 (lv_at hl 0 rfl) ?_
  refine lv_if_eq (tgt := 114) hx hb dX8_month_101 (by decide) (fun c1 => ?_) (fun c1 => ?_)
  · replace hf := it_t c1 hf
    refine lv_aload_n hx hb dX8_month_114 rfl (lv_at hl 1 rfl) ?_
    refine lv_iload_n hx hb dX8_month_115 rfl (lv_at hl 4 rfl) ?_
    refine lv_iconst (v := 2) hx hb dX8_month_116 (by decide) ?_
    refine lv_iadd hx hb dX8_month_117 ?_
    obtain ⟨hi2, hf⟩ := gi_e hf
    refine va_iald hx hb hK hP 0 0 rfl rfl hi2 dX8_month_118 ?_
    exact b_X8_month_119 C G hA hR x1 x2 (x3 + (2 : Int32)) (tt ((x3 + (2 : Int32))).toNatClampNeg) tt hK2 _ _ _ (lv_sub hl [1, 2, 3] rfl) hP hD hS hf
  · replace hf := it_f c1 hf
    refine lv_aload_n hx hb dX8_month_104 rfl (lv_at hl 1 rfl) ?_
    refine lv_iload_n hx hb dX8_month_105 rfl (lv_at hl 4 rfl) ?_
    refine lv_iconst (v := 2) hx hb dX8_month_106 (by decide) ?_
    refine lv_iadd hx hb dX8_month_107 ?_
    obtain ⟨hi3, hf⟩ := gi_e hf
    refine va_iald hx hb hK hP 0 0 rfl rfl hi3 dX8_month_108 ?_
    refine lv_iconst (v := 2) hx hb dX8_month_109 (by decide) ?_
    refine lv_idiv hx hb dX8_month_110 (by decide) ?_
    refine lv_goto (tgt := 119) hx hb dX8_month_111 (by decide) ?_
    exact b_X8_month_119 C G hA hR x1 x2 (x3 + (2 : Int32)) ((tt ((x3 + (2 : Int32))).toNatClampNeg) / (2 : Int32)) tt hK2 _ _ _ (lv_sub hl [1, 2, 3] rfl) hP hD hS hf
def f_X8_month_92 (x1 : Int32) (x2 : Int32) (x3 : Int32) (tt : Nat → Int32) (K2 : Int32 → (Nat → Int32) → Option (Int32 × (Nat → Int32))) : Option (Int32 × (Nat → Int32)) :=
  f_X8_month_93 x1 x2 x3 (0 : Int32) tt K2
set_option maxHeartbeats 4000000 in
set_option maxRecDepth 100000 in
theorem b_X8_month_92 {p : Program} {l : Launch} {e : Env} {s : State} {m : MethodId} {args : Array Value} {below : List Frame} {meth : Method} {c : Code} {Q : State → Prop} {dC : Nat → ClassId} {dI : Nat → Nat → Nat} {cs : Nat → ClassId} {A : Nat → Prop} {a : Nat} {res : Int32 × (Nat → Int32)} (C : CallFix p m c cX8_month 6 s args wsX8_month RX8) (G : GE dC dI cs s) (hA : ∀ q : Nat, s.heap.size ≤ q → A q) (hR : RTi p l e ({ frames := 2, cells := 0, slots := 0, locals := 45 }) s m args below meth c cX8_month Q (dC, dI) A (fun u : (Nat → Int32) => (wA cs a 362 u)) res) (x1 : Int32) (x2 : Int32) (x3 : Int32) (tt : Nat → Int32) {K2 : Int32 → (Nat → Int32) → Option (Int32 × (Nat → Int32))} (hK2 : ∀ (x2 : Int32) (tt : Nat → Int32) (H : Heap) (locs : List Loc) (ls : Array Slot), lv_has ls 6 [(0, .ref a), (1, .int (x1)), (2, .int (x2))] → va_P (dC, dI) vwCl (wA cs a 362 tt) H → va_D A (wA cs a 362 tt) → va_S A s.heap H locs → K2 x2 tt = some res → W p l e ({ frames := 2, cells := 0, slots := 0, locals := 45 }) s m args below meth c H locs 0 0 Q (F0 m 2 ls [])) (H : Heap) (locs : List Loc) (ls : Array Slot) (hl : lv_has ls 6 [(0, .ref a), (1, .int (x1)), (2, .int (x2)), (3, .int (x3))]) (hP : va_P (dC, dI) vwCl (wA cs a 362 tt) H) (hD : va_D A (wA cs a 362 tt)) (hS : va_S A s.heap H locs) (hf : f_X8_month_92 x1 x2 x3 tt K2 = some res) : W p l e ({ frames := 2, cells := 0, slots := 0, locals := 45 }) s m args below meth c H locs 0 0 Q (F0 m 92 ls []) := by
  obtain ⟨hx, hb, hml, hown, hts⟩ := id C
  obtain ⟨hK, hN⟩ := id G
  unfold f_X8_month_92 at hf
  refine lv_iconst (v := 0) hx hb dX8_month_92 (by decide) ?_
  exact b_X8_month_93 C G hA hR x1 x2 x3 (0 : Int32) tt hK2 _ _ _ (lv_sub hl [0, 1, 2, 3] rfl) hP hD hS hf
def f_X8_month_78 (x1 : Int32) (x2 : Int32) (x3 : Int32) (tt : Nat → Int32) (K2 : Int32 → (Nat → Int32) → Option (Int32 × (Nat → Int32))) : Option (Int32 × (Nat → Int32)) :=
  gi ((x3 + (2 : Int32))) 362 <|
  if (tt ((x3 + (2 : Int32))).toNatClampNeg) ≤ (50 : Int32) then (
    f_X8_month_92 x1 x2 x3 tt K2
  ) else (
    f_X8_month_93 x1 x2 x3 (1 : Int32) tt K2
  )
set_option maxHeartbeats 4000000 in
set_option maxRecDepth 100000 in
theorem b_X8_month_78 {p : Program} {l : Launch} {e : Env} {s : State} {m : MethodId} {args : Array Value} {below : List Frame} {meth : Method} {c : Code} {Q : State → Prop} {dC : Nat → ClassId} {dI : Nat → Nat → Nat} {cs : Nat → ClassId} {A : Nat → Prop} {a : Nat} {res : Int32 × (Nat → Int32)} (C : CallFix p m c cX8_month 6 s args wsX8_month RX8) (G : GE dC dI cs s) (hA : ∀ q : Nat, s.heap.size ≤ q → A q) (hR : RTi p l e ({ frames := 2, cells := 0, slots := 0, locals := 45 }) s m args below meth c cX8_month Q (dC, dI) A (fun u : (Nat → Int32) => (wA cs a 362 u)) res) (x1 : Int32) (x2 : Int32) (x3 : Int32) (tt : Nat → Int32) {K2 : Int32 → (Nat → Int32) → Option (Int32 × (Nat → Int32))} (hK2 : ∀ (x2 : Int32) (tt : Nat → Int32) (H : Heap) (locs : List Loc) (ls : Array Slot), lv_has ls 6 [(0, .ref a), (1, .int (x1)), (2, .int (x2))] → va_P (dC, dI) vwCl (wA cs a 362 tt) H → va_D A (wA cs a 362 tt) → va_S A s.heap H locs → K2 x2 tt = some res → W p l e ({ frames := 2, cells := 0, slots := 0, locals := 45 }) s m args below meth c H locs 0 0 Q (F0 m 2 ls [])) (H : Heap) (locs : List Loc) (ls : Array Slot) (hl : lv_has ls 6 [(0, .ref a), (1, .int (x1)), (2, .int (x2)), (3, .int (x3))]) (hP : va_P (dC, dI) vwCl (wA cs a 362 tt) H) (hD : va_D A (wA cs a 362 tt)) (hS : va_S A s.heap H locs) (hf : f_X8_month_78 x1 x2 x3 tt K2 = some res) : W p l e ({ frames := 2, cells := 0, slots := 0, locals := 45 }) s m args below meth c H locs 0 0 Q (F0 m 78 ls []) := by
  obtain ⟨hx, hb, hml, hown, hts⟩ := id C
  obtain ⟨hK, hN⟩ := id G
  unfold f_X8_month_78 at hf
  refine lv_aload_n hx hb dX8_month_78 rfl (lv_at hl 0 rfl) ?_
  refine lv_iload_n hx hb dX8_month_79 rfl (lv_at hl 3 rfl) ?_
  refine lv_iconst (v := 2) hx hb dX8_month_80 (by decide) ?_
  refine lv_iadd hx hb dX8_month_81 ?_
  obtain ⟨hi1, hf⟩ := gi_e hf
  refine va_iald hx hb hK hP 0 0 rfl rfl hi1 dX8_month_82 ?_
  refine lv_bipush (v := 50) hx hb dX8_month_83 (by decide) ?_
  refine lv_icmp_le (tgt := 92) hx hb dX8_month_85 (by decide) (fun c2 => ?_) (fun c2 => ?_)
  · replace hf := it_t c2 hf
    exact b_X8_month_92 C G hA hR x1 x2 x3 tt hK2 _ _ _ (lv_sub hl [0, 1, 2, 3] rfl) hP hD hS hf
  · replace hf := it_f c2 hf
    refine lv_iconst (v := 1) hx hb dX8_month_88 (by decide) ?_
    refine lv_goto (tgt := 93) hx hb dX8_month_89 (by decide) ?_
    exact b_X8_month_93 C G hA hR x1 x2 x3 (1 : Int32) tt hK2 _ _ _ (lv_sub hl [0, 1, 2, 3] rfl) hP hD hS hf
def f_X8_month_43 (x1 : Int32) (x2 : Int32) (x3 : Int32) (s0 : Int32) (tt : Nat → Int32) (K2 : Int32 → (Nat → Int32) → Option (Int32 × (Nat → Int32))) : Option (Int32 × (Nat → Int32)) :=
  gi ((x3 + (2 : Int32))) 362 <|
  bn (f_X8_least (9999 : Int32) ((tt ((x3 + (2 : Int32))).toNatClampNeg) + s0)) fun r60 =>
  gi ((x3 + (2 : Int32))) 362 <|
  lett (upd tt ((x3 + (2 : Int32))).toNatClampNeg (r60)) fun tt_63 =>
  gi (x3) 362 <|
  if (tt_63 (x3).toNatClampNeg) = (2 : Int32) then (
    f_X8_month_78 x1 x2 x3 tt_63 K2
  ) else (
    gi (x3) 362 <|
    if (tt_63 (x3).toNatClampNeg) = (4 : Int32) then (
      f_X8_month_78 x1 x2 x3 tt_63 K2
    ) else (
      f_X8_month_92 x1 x2 x3 tt_63 K2
    )
  )
set_option maxHeartbeats 4000000 in
set_option maxRecDepth 100000 in
theorem b_X8_month_43 {p : Program} {l : Launch} {e : Env} {s : State} {m : MethodId} {args : Array Value} {below : List Frame} {meth : Method} {c : Code} {Q : State → Prop} {dC : Nat → ClassId} {dI : Nat → Nat → Nat} {cs : Nat → ClassId} {A : Nat → Prop} {a : Nat} {res : Int32 × (Nat → Int32)} (C : CallFix p m c cX8_month 6 s args wsX8_month RX8) (G : GE dC dI cs s) (hA : ∀ q : Nat, s.heap.size ≤ q → A q) (hR : RTi p l e ({ frames := 2, cells := 0, slots := 0, locals := 45 }) s m args below meth c cX8_month Q (dC, dI) A (fun u : (Nat → Int32) => (wA cs a 362 u)) res) (x1 : Int32) (x2 : Int32) (x3 : Int32) (s0 : Int32) (tt : Nat → Int32) {K2 : Int32 → (Nat → Int32) → Option (Int32 × (Nat → Int32))} (hK2 : ∀ (x2 : Int32) (tt : Nat → Int32) (H : Heap) (locs : List Loc) (ls : Array Slot), lv_has ls 6 [(0, .ref a), (1, .int (x1)), (2, .int (x2))] → va_P (dC, dI) vwCl (wA cs a 362 tt) H → va_D A (wA cs a 362 tt) → va_S A s.heap H locs → K2 x2 tt = some res → W p l e ({ frames := 2, cells := 0, slots := 0, locals := 45 }) s m args below meth c H locs 0 0 Q (F0 m 2 ls [])) (H : Heap) (locs : List Loc) (ls : Array Slot) (hl : lv_has ls 6 [(0, .ref a), (1, .int (x1)), (2, .int (x2)), (3, .int (x3))]) (hP : va_P (dC, dI) vwCl (wA cs a 362 tt) H) (hD : va_D A (wA cs a 362 tt)) (hS : va_S A s.heap H locs) (hf : f_X8_month_43 x1 x2 x3 s0 tt K2 = some res) : W p l e ({ frames := 2, cells := 0, slots := 0, locals := 45 }) s m args below meth c H locs 0 0 Q (F0 m 43 ls [.int (s0)]) := by
  obtain ⟨hx, hb, hml, hown, hts⟩ := id C
  obtain ⟨hK, hN⟩ := id G
  unfold f_X8_month_43 at hf
  refine lv_istore (lv' := [(4, .int (s0)), (0, .ref a), (1, .int (x1)), (2, .int (x2)), (3, .int (x3))]) hx hb dX8_month_43 hl (by decide) rfl (fun ls hl => ?_)
  refine lv_aload_n hx hb dX8_month_45 rfl (lv_at hl 1 rfl) ?_
  refine lv_iload_n hx hb dX8_month_46 rfl (lv_at hl 4 rfl) ?_
  refine lv_iconst (v := 2) hx hb dX8_month_47 (by decide) ?_
  refine lv_iadd hx hb dX8_month_48 ?_
  refine lv_sipush (v := 9999) hx hb dX8_month_49 (by decide) ?_
  refine lv_aload_n hx hb dX8_month_52 rfl (lv_at hl 1 rfl) ?_
  refine lv_iload_n hx hb dX8_month_53 rfl (lv_at hl 4 rfl) ?_
  refine lv_iconst (v := 2) hx hb dX8_month_54 (by decide) ?_
  refine lv_iadd hx hb dX8_month_55 ?_
  obtain ⟨hi1, hf⟩ := gi_e hf
  refine va_iald hx hb hK hP 0 0 rfl rfl hi1 dX8_month_56 ?_
  refine lv_iload hx hb dX8_month_57 (lv_at hl 0 rfl) ?_
  refine lv_iadd hx hb dX8_month_59 ?_
  obtain ⟨r60, hr60, hf⟩ := bn_e hf
  have hPc := hP.sub (ws' := ([] : va_W)) [] rfl
  refine vp_callSi (W.runS (As := [.int ((9999 : Int32)), .int (((tt ((x3 + (2 : Int32))).toNatClampNeg) + s0))]) (rest := [.int ((x3 + (2 : Int32))), .ref a]) C (c_X8_least l dC dI cs (9999 : Int32) ((tt ((x3 + (2 : Int32))).toNatClampNeg) + s0) r60 hr60) (va_cwS 2 hts gX8_month_X8_least rfl rfl rfl (by decide +kernel) ⟨Nat.le_of_ble_eq_true rfl, Nat.le_of_ble_eq_true rfl⟩) ⟨(fun a U g mk q => ⟨q.1, q.2.1, GE.calling q.2.2⟩), (fun U hU hW => ⟨rfl, by rw [hU]; exact hPc, GE.warm hW G⟩)⟩ rfl rfl hl.1 rfl (lv_room (Nat.le_of_ble_eq_true rfl)) dX8_month_60 ⟨Nat.le_of_ble_eq_true rfl, Nat.le_of_ble_eq_true rfl⟩) (fun qr60 hqr60 => ?_)
  obtain rfl := hqr60.symm
  obtain ⟨hi2, hf⟩ := gi_e hf
  refine va_iast hx hb hK hP hD hS 0 0 rfl rfl hi2 dX8_month_63 (fun H locs hP hD hS => ?_)
  obtain ⟨tt_63, hP, hD, hf⟩ := st_nm (ws := fun tt_63 : Nat → Int32 => (wA cs a 362 tt_63)) (upd tt ((x3 + (2 : Int32))).toNatClampNeg (r60)) hP hD hf
  refine lv_aload_n hx hb dX8_month_64 rfl (lv_at hl 1 rfl) ?_
  refine lv_iload_n hx hb dX8_month_65 rfl (lv_at hl 4 rfl) ?_
  obtain ⟨hi3, hf⟩ := gi_e hf
  refine va_iald hx hb hK hP 0 0 rfl rfl hi3 dX8_month_66 ?_
  refine lv_iconst (v := 2) hx hb dX8_month_67 (by decide) ?_
  refine lv_icmp_eq (tgt := 78) hx hb dX8_month_68 (by decide) (fun c4 => ?_) (fun c4 => ?_)
  · replace hf := it_t c4 hf
    exact b_X8_month_78 C G hA hR x1 x2 x3 tt_63 hK2 _ _ _ (lv_sub hl [1, 2, 3, 4] rfl) hP hD hS hf
  · replace hf := it_f c4 hf
    refine lv_aload_n hx hb dX8_month_71 rfl (lv_at hl 1 rfl) ?_
    refine lv_iload_n hx hb dX8_month_72 rfl (lv_at hl 4 rfl) ?_
    obtain ⟨hi5, hf⟩ := gi_e hf
    refine va_iald hx hb hK hP 0 0 rfl rfl hi5 dX8_month_73 ?_
    refine lv_iconst (v := 4) hx hb dX8_month_74 (by decide) ?_
    refine lv_icmp_ne (tgt := 92) hx hb dX8_month_75 (by decide) (fun c6 => ?_) (fun c6 => ?_)
    · replace hf := it_f c6 hf
      exact b_X8_month_92 C G hA hR x1 x2 x3 tt_63 hK2 _ _ _ (lv_sub hl [1, 2, 3, 4] rfl) hP hD hS hf
    · replace hf := it_t c6 hf
      exact b_X8_month_78 C G hA hR x1 x2 x3 tt_63 hK2 _ _ _ (lv_sub hl [1, 2, 3, 4] rfl) hP hD hS hf
def f_X8_month_2 (x1 : Int32) (x2 : Int32) (tt : Nat → Int32) (K2 : Int32 → (Nat → Int32) → Option (Int32 × (Nat → Int32))) (K126 : (Nat → Int32) → Option (Int32 × (Nat → Int32))) : Option (Int32 × (Nat → Int32)) :=
  gi ((3 : Int32)) 362 <|
  if (tt ((3 : Int32)).toNatClampNeg) ≤ x2 then (
    K126 tt
  ) else (
    lett ((8 : Int32) + ((3 : Int32) * x2)) fun x3_15 =>
    if ((x1 >>> (x2 &&& 31)) &&& (1 : Int32)) = (1 : Int32) then (
      f_X8_month_43 x1 x2 x3_15 (0 : Int32) tt K2
    ) else (
      gi (x3_15) 362 <|
      gi ((x3_15 + (1 : Int32))) 362 <|
      gi ((2 : Int32)) 362 <|
      bn (f_X8_comes (tt (x3_15).toNatClampNeg) (tt ((x3_15 + (1 : Int32))).toNatClampNeg) (tt ((2 : Int32)).toNatClampNeg)) fun r40 =>
      f_X8_month_43 x1 x2 x3_15 r40 tt K2
    )
  )
set_option maxHeartbeats 4000000 in
set_option maxRecDepth 100000 in
theorem b_X8_month_2 {p : Program} {l : Launch} {e : Env} {s : State} {m : MethodId} {args : Array Value} {below : List Frame} {meth : Method} {c : Code} {Q : State → Prop} {dC : Nat → ClassId} {dI : Nat → Nat → Nat} {cs : Nat → ClassId} {A : Nat → Prop} {a : Nat} {res : Int32 × (Nat → Int32)} (C : CallFix p m c cX8_month 6 s args wsX8_month RX8) (G : GE dC dI cs s) (hA : ∀ q : Nat, s.heap.size ≤ q → A q) (hR : RTi p l e ({ frames := 2, cells := 0, slots := 0, locals := 45 }) s m args below meth c cX8_month Q (dC, dI) A (fun u : (Nat → Int32) => (wA cs a 362 u)) res) (x1 : Int32) (x2 : Int32) (tt : Nat → Int32) {K2 : Int32 → (Nat → Int32) → Option (Int32 × (Nat → Int32))} {K126 : (Nat → Int32) → Option (Int32 × (Nat → Int32))} (hK2 : ∀ (x2 : Int32) (tt : Nat → Int32) (H : Heap) (locs : List Loc) (ls : Array Slot), lv_has ls 6 [(0, .ref a), (1, .int (x1)), (2, .int (x2))] → va_P (dC, dI) vwCl (wA cs a 362 tt) H → va_D A (wA cs a 362 tt) → va_S A s.heap H locs → K2 x2 tt = some res → W p l e ({ frames := 2, cells := 0, slots := 0, locals := 45 }) s m args below meth c H locs 0 0 Q (F0 m 2 ls [])) (hK126 : ∀ (tt : Nat → Int32) (H : Heap) (locs : List Loc) (ls : Array Slot), lv_has ls 6 [(0, .ref a)] → va_P (dC, dI) vwCl (wA cs a 362 tt) H → va_D A (wA cs a 362 tt) → va_S A s.heap H locs → K126 tt = some res → W p l e ({ frames := 2, cells := 0, slots := 0, locals := 45 }) s m args below meth c H locs 0 0 Q (F0 m 126 ls [])) (H : Heap) (locs : List Loc) (ls : Array Slot) (hl : lv_has ls 6 [(0, .ref a), (1, .int (x1)), (2, .int (x2))]) (hP : va_P (dC, dI) vwCl (wA cs a 362 tt) H) (hD : va_D A (wA cs a 362 tt)) (hS : va_S A s.heap H locs) (hf : f_X8_month_2 x1 x2 tt K2 K126 = some res) : W p l e ({ frames := 2, cells := 0, slots := 0, locals := 45 }) s m args below meth c H locs 0 0 Q (F0 m 2 ls []) := by
  obtain ⟨hx, hb, hml, hown, hts⟩ := id C
  obtain ⟨hK, hN⟩ := id G
  unfold f_X8_month_2 at hf
  refine lv_iload_n hx hb dX8_month_2 rfl (lv_at hl 2 rfl) ?_
  refine lv_aload_n hx hb dX8_month_3 rfl (lv_at hl 0 rfl) ?_
  refine lv_iconst (v := 3) hx hb dX8_month_4 (by decide) ?_
  obtain ⟨hi1, hf⟩ := gi_e hf
  refine va_iald hx hb hK hP 0 0 rfl rfl hi1 dX8_month_5 ?_
  refine lv_icmp_ge (tgt := 126) hx hb dX8_month_6 (by decide) (fun c2 => ?_) (fun c2 => ?_)
  · replace hf := it_t c2 hf
    exact hK126 tt _ _ _ (lv_sub hl [0] rfl) hP hD hS hf
  · replace hf := it_f c2 hf
    refine lv_bipush (v := 8) hx hb dX8_month_9 (by decide) ?_
    refine lv_iconst (v := 3) hx hb dX8_month_11 (by decide) ?_
    refine lv_iload_n hx hb dX8_month_12 rfl (lv_at hl 2 rfl) ?_
    refine lv_imul hx hb dX8_month_13 ?_
    refine lv_iadd hx hb dX8_month_14 ?_
    refine lv_topi (fun x3_15 ex3_15 => ?_)
    replace hf := lett_s ex3_15 hf
    refine lv_istore_n (lv' := [(3, .int (x3_15)), (0, .ref a), (1, .int (x1)), (2, .int (x2))]) hx hb dX8_month_15 rfl hl (by decide) rfl (fun ls hl => ?_)
    refine lv_iload_n hx hb dX8_month_16 rfl (lv_at hl 2 rfl) ?_
    refine lv_iload_n hx hb dX8_month_17 rfl (lv_at hl 3 rfl) ?_
    refine lv_ishr hx hb dX8_month_18 ?_
    refine lv_iconst (v := 1) hx hb dX8_month_19 (by decide) ?_
    refine lv_iand hx hb dX8_month_20 ?_
    refine lv_iconst (v := 1) hx hb dX8_month_21 (by decide) ?_
    refine lv_icmp_ne (tgt := 29) hx hb dX8_month_22 (by decide) (fun c3 => ?_) (fun c3 => ?_)
    · replace hf := it_f c3 hf
      refine lv_aload_n hx hb dX8_month_29 rfl (lv_at hl 1 rfl) ?_
      refine lv_iload_n hx hb dX8_month_30 rfl (lv_at hl 0 rfl) ?_
      obtain ⟨hi4, hf⟩ := gi_e hf
      refine va_iald hx hb hK hP 0 0 rfl rfl hi4 dX8_month_31 ?_
      refine lv_aload_n hx hb dX8_month_32 rfl (lv_at hl 1 rfl) ?_
      refine lv_iload_n hx hb dX8_month_33 rfl (lv_at hl 0 rfl) ?_
      refine lv_iconst (v := 1) hx hb dX8_month_34 (by decide) ?_
      refine lv_iadd hx hb dX8_month_35 ?_
      obtain ⟨hi5, hf⟩ := gi_e hf
      refine va_iald hx hb hK hP 0 0 rfl rfl hi5 dX8_month_36 ?_
      refine lv_aload_n hx hb dX8_month_37 rfl (lv_at hl 1 rfl) ?_
      refine lv_iconst (v := 2) hx hb dX8_month_38 (by decide) ?_
      obtain ⟨hi6, hf⟩ := gi_e hf
      refine va_iald hx hb hK hP 0 0 rfl rfl hi6 dX8_month_39 ?_
      obtain ⟨r40, hr40, hf⟩ := bn_e hf
      have hPc := hP.sub (ws' := ([] : va_W)) [] rfl
      refine vp_callSi (W.runS (As := [.int ((tt (x3_15).toNatClampNeg)), .int ((tt ((x3_15 + (1 : Int32))).toNatClampNeg)), .int ((tt ((2 : Int32)).toNatClampNeg))]) (rest := []) C (c_X8_comes l dC dI cs (tt (x3_15).toNatClampNeg) (tt ((x3_15 + (1 : Int32))).toNatClampNeg) (tt ((2 : Int32)).toNatClampNeg) r40 hr40) (va_cwS 3 hts gX8_month_X8_comes rfl rfl rfl (by decide +kernel) ⟨Nat.le_of_ble_eq_true rfl, Nat.le_of_ble_eq_true rfl⟩) ⟨(fun a U g mk q => ⟨q.1, q.2.1, GE.calling q.2.2⟩), (fun U hU hW => ⟨rfl, by rw [hU]; exact hPc, GE.warm hW G⟩)⟩ rfl rfl hl.1 rfl (lv_room (Nat.le_of_ble_eq_true rfl)) dX8_month_40 ⟨Nat.le_of_ble_eq_true rfl, Nat.le_of_ble_eq_true rfl⟩) (fun qr40 hqr40 => ?_)
      obtain rfl := hqr40.symm
      exact b_X8_month_43 C G hA hR x1 x2 x3_15 r40 tt hK2 _ _ _ (lv_sub hl [1, 2, 3, 0] rfl) hP hD hS hf
    · replace hf := it_t c3 hf
      refine lv_iconst (v := 0) hx hb dX8_month_25 (by decide) ?_
      refine lv_goto (tgt := 43) hx hb dX8_month_26 (by decide) ?_
      exact b_X8_month_43 C G hA hR x1 x2 x3_15 (0 : Int32) tt hK2 _ _ _ (lv_sub hl [1, 2, 3, 0] rfl) hP hD hS hf
def l_X8_month_2 (x1 : Int32) (K126 : (Nat → Int32) → Option (Int32 × (Nat → Int32))) (n : Nat) (x2 : Int32) (tt : Nat → Int32) : Option (Int32 × (Nat → Int32)) := itr (fun (k : Int32 × (Nat → Int32) → Option (Int32 × (Nat → Int32))) (z : Int32 × (Nat → Int32)) => f_X8_month_2 x1 z.1 z.2 (fun x2 tt => k (x2, tt)) K126) n (x2, tt)
set_option maxHeartbeats 4000000 in
set_option maxRecDepth 100000 in
theorem w_X8_month_2 {p : Program} {l : Launch} {e : Env} {s : State} {m : MethodId} {args : Array Value} {below : List Frame} {meth : Method} {c : Code} {Q : State → Prop} {dC : Nat → ClassId} {dI : Nat → Nat → Nat} {cs : Nat → ClassId} {A : Nat → Prop} {a : Nat} {res : Int32 × (Nat → Int32)} (C : CallFix p m c cX8_month 6 s args wsX8_month RX8) (G : GE dC dI cs s) (hA : ∀ q : Nat, s.heap.size ≤ q → A q) (hR : RTi p l e ({ frames := 2, cells := 0, slots := 0, locals := 45 }) s m args below meth c cX8_month Q (dC, dI) A (fun u : (Nat → Int32) => (wA cs a 362 u)) res) (x1 : Int32) {K126 : (Nat → Int32) → Option (Int32 × (Nat → Int32))} (hK126 : ∀ (tt : Nat → Int32) (H : Heap) (locs : List Loc) (ls : Array Slot), lv_has ls 6 [(0, .ref a)] → va_P (dC, dI) vwCl (wA cs a 362 tt) H → va_D A (wA cs a 362 tt) → va_S A s.heap H locs → K126 tt = some res → W p l e ({ frames := 2, cells := 0, slots := 0, locals := 45 }) s m args below meth c H locs 0 0 Q (F0 m 126 ls [])) : ∀ (n : Nat) (x2 : Int32) (tt : Nat → Int32) (H : Heap) (locs : List Loc) (ls : Array Slot), lv_has ls 6 [(0, .ref a), (1, .int (x1)), (2, .int (x2))] → va_P (dC, dI) vwCl (wA cs a 362 tt) H → va_D A (wA cs a 362 tt) → va_S A s.heap H locs → l_X8_month_2 x1 K126 n x2 tt = some res → W p l e ({ frames := 2, cells := 0, slots := 0, locals := 45 }) s m args below meth c H locs 0 0 Q (F0 m 2 ls []) := by
  intro n
  induction n with
  | zero => intro x2 tt H locs ls hl hP hD hS hf; exact absurd hf (by simp [l_X8_month_2, itr])
  | succ n ih => intro x2 tt H locs ls hl hP hD hS hf; exact b_X8_month_2 C G hA hR x1 x2 tt (K2 := fun x2 tt => l_X8_month_2 x1 K126 n x2 tt) (fun x2 tt H locs ls hl hP hD hS hf => ih x2 tt H locs ls hl hP hD hS hf) hK126 H locs ls hl hP hD hS hf
def f_X8_month_153 (x2 : Int32) (tt : Nat → Int32) (K128 : Int32 → (Nat → Int32) → Option (Int32 × (Nat → Int32))) : Option (Int32 × (Nat → Int32)) :=
  lett (x2 + 1) fun x2_153 =>
  K128 x2_153 tt
set_option maxHeartbeats 4000000 in
set_option maxRecDepth 100000 in
theorem b_X8_month_153 {p : Program} {l : Launch} {e : Env} {s : State} {m : MethodId} {args : Array Value} {below : List Frame} {meth : Method} {c : Code} {Q : State → Prop} {dC : Nat → ClassId} {dI : Nat → Nat → Nat} {cs : Nat → ClassId} {A : Nat → Prop} {a : Nat} {res : Int32 × (Nat → Int32)} (C : CallFix p m c cX8_month 6 s args wsX8_month RX8) (G : GE dC dI cs s) (hA : ∀ q : Nat, s.heap.size ≤ q → A q) (hR : RTi p l e ({ frames := 2, cells := 0, slots := 0, locals := 45 }) s m args below meth c cX8_month Q (dC, dI) A (fun u : (Nat → Int32) => (wA cs a 362 u)) res) (x2 : Int32) (tt : Nat → Int32) {K128 : Int32 → (Nat → Int32) → Option (Int32 × (Nat → Int32))} (hK128 : ∀ (x2 : Int32) (tt : Nat → Int32) (H : Heap) (locs : List Loc) (ls : Array Slot), lv_has ls 6 [(0, .ref a), (2, .int (x2))] → va_P (dC, dI) vwCl (wA cs a 362 tt) H → va_D A (wA cs a 362 tt) → va_S A s.heap H locs → K128 x2 tt = some res → W p l e ({ frames := 2, cells := 0, slots := 0, locals := 45 }) s m args below meth c H locs 0 0 Q (F0 m 128 ls [])) (H : Heap) (locs : List Loc) (ls : Array Slot) (hl : lv_has ls 6 [(0, .ref a), (2, .int (x2))]) (hP : va_P (dC, dI) vwCl (wA cs a 362 tt) H) (hD : va_D A (wA cs a 362 tt)) (hS : va_S A s.heap H locs) (hf : f_X8_month_153 x2 tt K128 = some res) : W p l e ({ frames := 2, cells := 0, slots := 0, locals := 45 }) s m args below meth c H locs 0 0 Q (F0 m 153 ls []) := by
  obtain ⟨hx, hb, hml, hown, hts⟩ := id C
  obtain ⟨hK, hN⟩ := id G
  unfold f_X8_month_153 at hf
  obtain ⟨x2_153, ex2_153⟩ : ∃ y : Int32, y = (x2 + 1) := ⟨_, rfl⟩
  replace hf := lett_s ex2_153 hf
  refine lv_iinc (v := x2_153) (lv' := [(2, .int (x2_153)), (0, .ref a)]) hx hb dX8_month_153 hl (k := 1) rfl (by rw [ex2_153]; rfl) (by decide) rfl (fun ls hl => ?_)
  refine lv_goto (tgt := 128) hx hb dX8_month_156 (by decide) ?_
  exact hK128 x2_153 tt _ _ _ (lv_sub hl [1, 0] rfl) hP hD hS hf
def f_X8_month_128 (x2 : Int32) (tt : Nat → Int32) (K128 : Int32 → (Nat → Int32) → Option (Int32 × (Nat → Int32))) (K159 : (Nat → Int32) → Option (Int32 × (Nat → Int32))) : Option (Int32 × (Nat → Int32)) :=
  gi ((4 : Int32)) 362 <|
  if (tt ((4 : Int32)).toNatClampNeg) ≤ x2 then (
    K159 tt
  ) else (
    gi ((((26 : Int32) + ((5 : Int32) * x2)) + (3 : Int32))) 362 <|
    if (tt ((((26 : Int32) + ((5 : Int32) * x2)) + (3 : Int32))).toNatClampNeg) = 0 then (
      bn (f_X8_gives x2 tt) fun r150 =>
      f_X8_month_153 x2 r150 K128
    ) else (
      f_X8_month_153 x2 tt K128
    )
  )
set_option maxHeartbeats 4000000 in
set_option maxRecDepth 100000 in
theorem b_X8_month_128 {p : Program} {l : Launch} {e : Env} {s : State} {m : MethodId} {args : Array Value} {below : List Frame} {meth : Method} {c : Code} {Q : State → Prop} {dC : Nat → ClassId} {dI : Nat → Nat → Nat} {cs : Nat → ClassId} {A : Nat → Prop} {a : Nat} {res : Int32 × (Nat → Int32)} (C : CallFix p m c cX8_month 6 s args wsX8_month RX8) (G : GE dC dI cs s) (hA : ∀ q : Nat, s.heap.size ≤ q → A q) (hR : RTi p l e ({ frames := 2, cells := 0, slots := 0, locals := 45 }) s m args below meth c cX8_month Q (dC, dI) A (fun u : (Nat → Int32) => (wA cs a 362 u)) res) (x2 : Int32) (tt : Nat → Int32) {K128 : Int32 → (Nat → Int32) → Option (Int32 × (Nat → Int32))} {K159 : (Nat → Int32) → Option (Int32 × (Nat → Int32))} (hK128 : ∀ (x2 : Int32) (tt : Nat → Int32) (H : Heap) (locs : List Loc) (ls : Array Slot), lv_has ls 6 [(0, .ref a), (2, .int (x2))] → va_P (dC, dI) vwCl (wA cs a 362 tt) H → va_D A (wA cs a 362 tt) → va_S A s.heap H locs → K128 x2 tt = some res → W p l e ({ frames := 2, cells := 0, slots := 0, locals := 45 }) s m args below meth c H locs 0 0 Q (F0 m 128 ls [])) (hK159 : ∀ (tt : Nat → Int32) (H : Heap) (locs : List Loc) (ls : Array Slot), lv_has ls 6 [(0, .ref a)] → va_P (dC, dI) vwCl (wA cs a 362 tt) H → va_D A (wA cs a 362 tt) → va_S A s.heap H locs → K159 tt = some res → W p l e ({ frames := 2, cells := 0, slots := 0, locals := 45 }) s m args below meth c H locs 0 0 Q (F0 m 159 ls [])) (H : Heap) (locs : List Loc) (ls : Array Slot) (hl : lv_has ls 6 [(0, .ref a), (2, .int (x2))]) (hP : va_P (dC, dI) vwCl (wA cs a 362 tt) H) (hD : va_D A (wA cs a 362 tt)) (hS : va_S A s.heap H locs) (hf : f_X8_month_128 x2 tt K128 K159 = some res) : W p l e ({ frames := 2, cells := 0, slots := 0, locals := 45 }) s m args below meth c H locs 0 0 Q (F0 m 128 ls []) := by
  obtain ⟨hx, hb, hml, hown, hts⟩ := id C
  obtain ⟨hK, hN⟩ := id G
  unfold f_X8_month_128 at hf
  refine lv_iload_n hx hb dX8_month_128 rfl (lv_at hl 1 rfl) ?_
  refine lv_aload_n hx hb dX8_month_129 rfl (lv_at hl 0 rfl) ?_
  refine lv_iconst (v := 4) hx hb dX8_month_130 (by decide) ?_
  obtain ⟨hi1, hf⟩ := gi_e hf
  refine va_iald hx hb hK hP 0 0 rfl rfl hi1 dX8_month_131 ?_
  refine lv_icmp_ge (tgt := 159) hx hb dX8_month_132 (by decide) (fun c2 => ?_) (fun c2 => ?_)
  · replace hf := it_t c2 hf
    exact hK159 tt _ _ _ (lv_sub hl [0] rfl) hP hD hS hf
  · replace hf := it_f c2 hf
    refine lv_aload_n hx hb dX8_month_135 rfl (lv_at hl 0 rfl) ?_
    refine lv_bipush (v := 26) hx hb dX8_month_136 (by decide) ?_
    refine lv_iconst (v := 5) hx hb dX8_month_138 (by decide) ?_
    refine lv_iload_n hx hb dX8_month_139 rfl (lv_at hl 1 rfl) ?_
    refine lv_imul hx hb dX8_month_140 ?_
    refine lv_iadd hx hb dX8_month_141 ?_
    refine lv_iconst (v := 3) hx hb dX8_month_142 (by decide) ?_
    refine lv_iadd hx hb dX8_month_143 ?_
    obtain ⟨hi3, hf⟩ := gi_e hf
    refine va_iald hx hb hK hP 0 0 rfl rfl hi3 dX8_month_144 ?_
    refine lv_if_ne (tgt := 153) hx hb dX8_month_145 (by decide) (fun c4 => ?_) (fun c4 => ?_)
    · replace hf := it_f c4 hf
      exact b_X8_month_153 C G hA hR x2 tt hK128 _ _ _ (lv_sub hl [0, 1] rfl) hP hD hS hf
    · replace hf := it_t c4 hf
      refine lv_aload_n hx hb dX8_month_148 rfl (lv_at hl 0 rfl) ?_
      refine lv_iload_n hx hb dX8_month_149 rfl (lv_at hl 1 rfl) ?_
      obtain ⟨r150, hr150, hf⟩ := bn_e hf
      have hPc := hP.sub (ws' := (wA cs a 362 tt)) [0] rfl
      have hDc := hD.sub (ws' := (wA cs a 362 tt)) [0] (by decide) rfl
      have hFc := va_free (wc := (wA cs a 362 tt)) hD hS hA [0] rfl
      refine va_callv (va_runS (As := [.ref a, .int (x2)]) (rest := []) C (c_X8_gives l dC dI cs a H.size tt x2 r150 hr150) (va_cwS 2 hts gX8_month_X8_gives rfl rfl rfl (by decide +kernel) ⟨Nat.le_of_ble_eq_true rfl, Nat.le_of_ble_eq_true rfl⟩) ⟨(fun a U g mk q => ⟨q.1, q.2.1, q.2.2.1, GE.calling q.2.2.2.1, q.2.2.2.2⟩), (fun U hU hW => ⟨rfl, by rw [hU], by rw [hU]; exact hPc, GE.warm hW G, hDc.weaken (fun _ _ _ _ => trivial)⟩)⟩ rfl rfl hl.1 rfl (lv_room (Nat.le_of_ble_eq_true rfl)) dX8_month_150 ⟨Nat.le_of_ble_eq_true rfl, Nat.le_of_ble_eq_true rfl⟩) hS (fun q _ h => hFc q h) hFc (fun u t H1 locs ht hvm hw hB hz1 hk1 hS => ?_)
      obtain rfl := hw.symm
      obtain ⟨hP1, hD1⟩ := hB
      rw [ht] at hP1
      obtain ⟨hP, hD⟩ := va_join (wr := []) (w1 := (wA cs a 362 r150)) hP hD [0] [] rfl rfl (by decide) (by decide) hk1 hFc hP1 hD1
      generalize H1 = H at hP hS ⊢
      have hP := hP.sub (ws' := (wA cs a 362 r150)) [0] rfl
      have hD := hD.sub (ws' := (wA cs a 362 r150)) [0] (by decide) rfl
      exact b_X8_month_153 C G hA hR x2 r150 hK128 _ _ _ (lv_sub hl [0, 1] rfl) hP hD hS hf
def l_X8_month_128  (K159 : (Nat → Int32) → Option (Int32 × (Nat → Int32))) (n : Nat) (x2 : Int32) (tt : Nat → Int32) : Option (Int32 × (Nat → Int32)) := itr (fun (k : Int32 × (Nat → Int32) → Option (Int32 × (Nat → Int32))) (z : Int32 × (Nat → Int32)) => f_X8_month_128 z.1 z.2 (fun x2 tt => k (x2, tt)) K159) n (x2, tt)
set_option maxHeartbeats 4000000 in
set_option maxRecDepth 100000 in
theorem w_X8_month_128 {p : Program} {l : Launch} {e : Env} {s : State} {m : MethodId} {args : Array Value} {below : List Frame} {meth : Method} {c : Code} {Q : State → Prop} {dC : Nat → ClassId} {dI : Nat → Nat → Nat} {cs : Nat → ClassId} {A : Nat → Prop} {a : Nat} {res : Int32 × (Nat → Int32)} (C : CallFix p m c cX8_month 6 s args wsX8_month RX8) (G : GE dC dI cs s) (hA : ∀ q : Nat, s.heap.size ≤ q → A q) (hR : RTi p l e ({ frames := 2, cells := 0, slots := 0, locals := 45 }) s m args below meth c cX8_month Q (dC, dI) A (fun u : (Nat → Int32) => (wA cs a 362 u)) res)  {K159 : (Nat → Int32) → Option (Int32 × (Nat → Int32))} (hK159 : ∀ (tt : Nat → Int32) (H : Heap) (locs : List Loc) (ls : Array Slot), lv_has ls 6 [(0, .ref a)] → va_P (dC, dI) vwCl (wA cs a 362 tt) H → va_D A (wA cs a 362 tt) → va_S A s.heap H locs → K159 tt = some res → W p l e ({ frames := 2, cells := 0, slots := 0, locals := 45 }) s m args below meth c H locs 0 0 Q (F0 m 159 ls [])) : ∀ (n : Nat) (x2 : Int32) (tt : Nat → Int32) (H : Heap) (locs : List Loc) (ls : Array Slot), lv_has ls 6 [(0, .ref a), (2, .int (x2))] → va_P (dC, dI) vwCl (wA cs a 362 tt) H → va_D A (wA cs a 362 tt) → va_S A s.heap H locs → l_X8_month_128 K159 n x2 tt = some res → W p l e ({ frames := 2, cells := 0, slots := 0, locals := 45 }) s m args below meth c H locs 0 0 Q (F0 m 128 ls []) := by
  intro n
  induction n with
  | zero => intro x2 tt H locs ls hl hP hD hS hf; exact absurd hf (by simp [l_X8_month_128, itr])
  | succ n ih => intro x2 tt H locs ls hl hP hD hS hf; exact b_X8_month_128 C G hA hR x2 tt (K128 := fun x2 tt => l_X8_month_128 K159 n x2 tt) (fun x2 tt H locs ls hl hP hD hS hf => ih x2 tt H locs ls hl hP hD hS hf) hK159 H locs ls hl hP hD hS hf
def f_X8_month_198 (x3 : Int32) (s0 : Int32) (s1 : Int32) (tt : Nat → Int32) (K163 : Int32 → Int32 → (Nat → Int32) → Option (Int32 × (Nat → Int32))) : Option (Int32 × (Nat → Int32)) :=
  lett (s0 + s1) fun x2_199 =>
  lett (x3 + 1) fun x3_200 =>
  K163 x2_199 x3_200 tt
set_option maxHeartbeats 4000000 in
set_option maxRecDepth 100000 in
theorem b_X8_month_198 {p : Program} {l : Launch} {e : Env} {s : State} {m : MethodId} {args : Array Value} {below : List Frame} {meth : Method} {c : Code} {Q : State → Prop} {dC : Nat → ClassId} {dI : Nat → Nat → Nat} {cs : Nat → ClassId} {A : Nat → Prop} {a : Nat} {res : Int32 × (Nat → Int32)} (C : CallFix p m c cX8_month 6 s args wsX8_month RX8) (G : GE dC dI cs s) (hA : ∀ q : Nat, s.heap.size ≤ q → A q) (hR : RTi p l e ({ frames := 2, cells := 0, slots := 0, locals := 45 }) s m args below meth c cX8_month Q (dC, dI) A (fun u : (Nat → Int32) => (wA cs a 362 u)) res) (x3 : Int32) (s0 : Int32) (s1 : Int32) (tt : Nat → Int32) {K163 : Int32 → Int32 → (Nat → Int32) → Option (Int32 × (Nat → Int32))} (hK163 : ∀ (x2 : Int32) (x3 : Int32) (tt : Nat → Int32) (H : Heap) (locs : List Loc) (ls : Array Slot), lv_has ls 6 [(0, .ref a), (2, .int (x2)), (3, .int (x3))] → va_P (dC, dI) vwCl (wA cs a 362 tt) H → va_D A (wA cs a 362 tt) → va_S A s.heap H locs → K163 x2 x3 tt = some res → W p l e ({ frames := 2, cells := 0, slots := 0, locals := 45 }) s m args below meth c H locs 0 0 Q (F0 m 163 ls [])) (H : Heap) (locs : List Loc) (ls : Array Slot) (hl : lv_has ls 6 [(0, .ref a), (3, .int (x3))]) (hP : va_P (dC, dI) vwCl (wA cs a 362 tt) H) (hD : va_D A (wA cs a 362 tt)) (hS : va_S A s.heap H locs) (hf : f_X8_month_198 x3 s0 s1 tt K163 = some res) : W p l e ({ frames := 2, cells := 0, slots := 0, locals := 45 }) s m args below meth c H locs 0 0 Q (F0 m 198 ls [.int (s1), .int (s0)]) := by
  obtain ⟨hx, hb, hml, hown, hts⟩ := id C
  obtain ⟨hK, hN⟩ := id G
  unfold f_X8_month_198 at hf
  refine lv_iadd hx hb dX8_month_198 ?_
  refine lv_topi (fun x2_199 ex2_199 => ?_)
  replace hf := lett_s ex2_199 hf
  refine lv_istore_n (lv' := [(2, .int (x2_199)), (0, .ref a), (3, .int (x3))]) hx hb dX8_month_199 rfl hl (by decide) rfl (fun ls hl => ?_)
  obtain ⟨x3_200, ex3_200⟩ : ∃ y : Int32, y = (x3 + 1) := ⟨_, rfl⟩
  replace hf := lett_s ex3_200 hf
  refine lv_iinc (v := x3_200) (lv' := [(3, .int (x3_200)), (2, .int (x2_199)), (0, .ref a)]) hx hb dX8_month_200 hl (k := 2) rfl (by rw [ex3_200]; rfl) (by decide) rfl (fun ls hl => ?_)
  refine lv_goto (tgt := 163) hx hb dX8_month_203 (by decide) ?_
  exact hK163 x2_199 x3_200 tt _ _ _ (lv_sub hl [2, 1, 0] rfl) hP hD hS hf
def f_X8_month_197 (x3 : Int32) (s0 : Int32) (tt : Nat → Int32) (K163 : Int32 → Int32 → (Nat → Int32) → Option (Int32 × (Nat → Int32))) : Option (Int32 × (Nat → Int32)) :=
  f_X8_month_198 x3 s0 (0 : Int32) tt K163
set_option maxHeartbeats 4000000 in
set_option maxRecDepth 100000 in
theorem b_X8_month_197 {p : Program} {l : Launch} {e : Env} {s : State} {m : MethodId} {args : Array Value} {below : List Frame} {meth : Method} {c : Code} {Q : State → Prop} {dC : Nat → ClassId} {dI : Nat → Nat → Nat} {cs : Nat → ClassId} {A : Nat → Prop} {a : Nat} {res : Int32 × (Nat → Int32)} (C : CallFix p m c cX8_month 6 s args wsX8_month RX8) (G : GE dC dI cs s) (hA : ∀ q : Nat, s.heap.size ≤ q → A q) (hR : RTi p l e ({ frames := 2, cells := 0, slots := 0, locals := 45 }) s m args below meth c cX8_month Q (dC, dI) A (fun u : (Nat → Int32) => (wA cs a 362 u)) res) (x3 : Int32) (s0 : Int32) (tt : Nat → Int32) {K163 : Int32 → Int32 → (Nat → Int32) → Option (Int32 × (Nat → Int32))} (hK163 : ∀ (x2 : Int32) (x3 : Int32) (tt : Nat → Int32) (H : Heap) (locs : List Loc) (ls : Array Slot), lv_has ls 6 [(0, .ref a), (2, .int (x2)), (3, .int (x3))] → va_P (dC, dI) vwCl (wA cs a 362 tt) H → va_D A (wA cs a 362 tt) → va_S A s.heap H locs → K163 x2 x3 tt = some res → W p l e ({ frames := 2, cells := 0, slots := 0, locals := 45 }) s m args below meth c H locs 0 0 Q (F0 m 163 ls [])) (H : Heap) (locs : List Loc) (ls : Array Slot) (hl : lv_has ls 6 [(0, .ref a), (3, .int (x3))]) (hP : va_P (dC, dI) vwCl (wA cs a 362 tt) H) (hD : va_D A (wA cs a 362 tt)) (hS : va_S A s.heap H locs) (hf : f_X8_month_197 x3 s0 tt K163 = some res) : W p l e ({ frames := 2, cells := 0, slots := 0, locals := 45 }) s m args below meth c H locs 0 0 Q (F0 m 197 ls [.int (s0)]) := by
  obtain ⟨hx, hb, hml, hown, hts⟩ := id C
  obtain ⟨hK, hN⟩ := id G
  unfold f_X8_month_197 at hf
  refine lv_iconst (v := 0) hx hb dX8_month_197 (by decide) ?_
  exact b_X8_month_198 C G hA hR x3 s0 (0 : Int32) tt hK163 _ _ _ (lv_sub hl [0, 1] rfl) hP hD hS hf
def f_X8_month_163 (x2 : Int32) (x3 : Int32) (tt : Nat → Int32) (K163 : Int32 → Int32 → (Nat → Int32) → Option (Int32 × (Nat → Int32))) (K206 : Int32 → (Nat → Int32) → Option (Int32 × (Nat → Int32))) : Option (Int32 × (Nat → Int32)) :=
  gi ((4 : Int32)) 362 <|
  if (tt ((4 : Int32)).toNatClampNeg) ≤ x3 then (
    K206 x2 tt
  ) else (
    gi ((((26 : Int32) + ((5 : Int32) * x3)) + (3 : Int32))) 362 <|
    if (tt ((((26 : Int32) + ((5 : Int32) * x3)) + (3 : Int32))).toNatClampNeg) = (3 : Int32) then (
      bn (f_X8_pays x3 tt) fun r187 =>
      if r187.1 = 0 then (
        f_X8_month_197 x3 x2 r187.2 K163
      ) else (
        f_X8_month_198 x3 x2 (1 : Int32) r187.2 K163
      )
    ) else (
      f_X8_month_197 x3 x2 tt K163
    )
  )
set_option maxHeartbeats 4000000 in
set_option maxRecDepth 100000 in
theorem b_X8_month_163 {p : Program} {l : Launch} {e : Env} {s : State} {m : MethodId} {args : Array Value} {below : List Frame} {meth : Method} {c : Code} {Q : State → Prop} {dC : Nat → ClassId} {dI : Nat → Nat → Nat} {cs : Nat → ClassId} {A : Nat → Prop} {a : Nat} {res : Int32 × (Nat → Int32)} (C : CallFix p m c cX8_month 6 s args wsX8_month RX8) (G : GE dC dI cs s) (hA : ∀ q : Nat, s.heap.size ≤ q → A q) (hR : RTi p l e ({ frames := 2, cells := 0, slots := 0, locals := 45 }) s m args below meth c cX8_month Q (dC, dI) A (fun u : (Nat → Int32) => (wA cs a 362 u)) res) (x2 : Int32) (x3 : Int32) (tt : Nat → Int32) {K163 : Int32 → Int32 → (Nat → Int32) → Option (Int32 × (Nat → Int32))} {K206 : Int32 → (Nat → Int32) → Option (Int32 × (Nat → Int32))} (hK163 : ∀ (x2 : Int32) (x3 : Int32) (tt : Nat → Int32) (H : Heap) (locs : List Loc) (ls : Array Slot), lv_has ls 6 [(0, .ref a), (2, .int (x2)), (3, .int (x3))] → va_P (dC, dI) vwCl (wA cs a 362 tt) H → va_D A (wA cs a 362 tt) → va_S A s.heap H locs → K163 x2 x3 tt = some res → W p l e ({ frames := 2, cells := 0, slots := 0, locals := 45 }) s m args below meth c H locs 0 0 Q (F0 m 163 ls [])) (hK206 : ∀ (x2 : Int32) (tt : Nat → Int32) (H : Heap) (locs : List Loc) (ls : Array Slot), lv_has ls 6 [(0, .ref a), (2, .int (x2))] → va_P (dC, dI) vwCl (wA cs a 362 tt) H → va_D A (wA cs a 362 tt) → va_S A s.heap H locs → K206 x2 tt = some res → W p l e ({ frames := 2, cells := 0, slots := 0, locals := 45 }) s m args below meth c H locs 0 0 Q (F0 m 206 ls [])) (H : Heap) (locs : List Loc) (ls : Array Slot) (hl : lv_has ls 6 [(0, .ref a), (2, .int (x2)), (3, .int (x3))]) (hP : va_P (dC, dI) vwCl (wA cs a 362 tt) H) (hD : va_D A (wA cs a 362 tt)) (hS : va_S A s.heap H locs) (hf : f_X8_month_163 x2 x3 tt K163 K206 = some res) : W p l e ({ frames := 2, cells := 0, slots := 0, locals := 45 }) s m args below meth c H locs 0 0 Q (F0 m 163 ls []) := by
  obtain ⟨hx, hb, hml, hown, hts⟩ := id C
  obtain ⟨hK, hN⟩ := id G
  unfold f_X8_month_163 at hf
  refine lv_iload_n hx hb dX8_month_163 rfl (lv_at hl 2 rfl) ?_
  refine lv_aload_n hx hb dX8_month_164 rfl (lv_at hl 0 rfl) ?_
  refine lv_iconst (v := 4) hx hb dX8_month_165 (by decide) ?_
  obtain ⟨hi1, hf⟩ := gi_e hf
  refine va_iald hx hb hK hP 0 0 rfl rfl hi1 dX8_month_166 ?_
  refine lv_icmp_ge (tgt := 206) hx hb dX8_month_167 (by decide) (fun c2 => ?_) (fun c2 => ?_)
  · replace hf := it_t c2 hf
    exact hK206 x2 tt _ _ _ (lv_sub hl [0, 1] rfl) hP hD hS hf
  · replace hf := it_f c2 hf
    refine lv_iload_n hx hb dX8_month_170 rfl (lv_at hl 1 rfl) ?_
    refine lv_aload_n hx hb dX8_month_171 rfl (lv_at hl 0 rfl) ?_
    refine lv_bipush (v := 26) hx hb dX8_month_172 (by decide) ?_
    refine lv_iconst (v := 5) hx hb dX8_month_174 (by decide) ?_
    refine lv_iload_n hx hb dX8_month_175 rfl (lv_at hl 2 rfl) ?_
    refine lv_imul hx hb dX8_month_176 ?_
    refine lv_iadd hx hb dX8_month_177 ?_
    refine lv_iconst (v := 3) hx hb dX8_month_178 (by decide) ?_
    refine lv_iadd hx hb dX8_month_179 ?_
    obtain ⟨hi3, hf⟩ := gi_e hf
    refine va_iald hx hb hK hP 0 0 rfl rfl hi3 dX8_month_180 ?_
    refine lv_iconst (v := 3) hx hb dX8_month_181 (by decide) ?_
    refine lv_icmp_ne (tgt := 197) hx hb dX8_month_182 (by decide) (fun c4 => ?_) (fun c4 => ?_)
    · replace hf := it_f c4 hf
      exact b_X8_month_197 C G hA hR x3 x2 tt hK163 _ _ _ (lv_sub hl [0, 2] rfl) hP hD hS hf
    · replace hf := it_t c4 hf
      refine lv_aload_n hx hb dX8_month_185 rfl (lv_at hl 0 rfl) ?_
      refine lv_iload_n hx hb dX8_month_186 rfl (lv_at hl 2 rfl) ?_
      obtain ⟨r187, hr187, hf⟩ := bn_e hf
      have hPc := hP.sub (ws' := (wA cs a 362 tt)) [0] rfl
      have hDc := hD.sub (ws' := (wA cs a 362 tt)) [0] (by decide) rfl
      have hFc := va_free (wc := (wA cs a 362 tt)) hD hS hA [0] rfl
      refine va_calli (va_runS (As := [.ref a, .int (x3)]) (rest := [.int (x2)]) C (c_X8_pays l dC dI cs a H.size tt x3 r187 hr187) (va_cwS 2 hts gX8_month_X8_pays rfl rfl rfl (by decide +kernel) ⟨Nat.le_of_ble_eq_true rfl, Nat.le_of_ble_eq_true rfl⟩) ⟨(fun a U g mk q => ⟨q.1, q.2.1, q.2.2.1, GE.calling q.2.2.2.1, q.2.2.2.2⟩), (fun U hU hW => ⟨rfl, by rw [hU], by rw [hU]; exact hPc, GE.warm hW G, hDc.weaken (fun _ _ _ _ => trivial)⟩)⟩ rfl rfl hl.1 rfl (lv_room (Nat.le_of_ble_eq_true rfl)) dX8_month_187 ⟨Nat.le_of_ble_eq_true rfl, Nat.le_of_ble_eq_true rfl⟩) hS (fun q _ h => hFc q h) hFc (fun q u t H1 locs ht hvm hw hB hz1 hk1 hS => ?_)
      obtain ⟨rfl, rfl, hnr187⟩ := hw
      obtain ⟨hP1, hD1⟩ := hB
      rw [ht] at hP1
      obtain ⟨hP, hD⟩ := va_join (wr := []) (w1 := (wA cs a 362 r187.2)) hP hD [0] [] rfl rfl (by decide) (by decide) hk1 hFc hP1 hD1
      generalize H1 = H at hP hS ⊢
      have hP := hP.sub (ws' := (wA cs a 362 r187.2)) [0] rfl
      have hD := hD.sub (ws' := (wA cs a 362 r187.2)) [0] (by decide) rfl
      refine lv_if_eq (tgt := 197) hx hb dX8_month_190 (by decide) (fun c5 => ?_) (fun c5 => ?_)
      · replace hf := it_t c5 hf
        exact b_X8_month_197 C G hA hR x3 x2 r187.2 hK163 _ _ _ (lv_sub hl [0, 2] rfl) hP hD hS hf
      · replace hf := it_f c5 hf
        refine lv_iconst (v := 1) hx hb dX8_month_193 (by decide) ?_
        refine lv_goto (tgt := 198) hx hb dX8_month_194 (by decide) ?_
        exact b_X8_month_198 C G hA hR x3 x2 (1 : Int32) r187.2 hK163 _ _ _ (lv_sub hl [0, 2] rfl) hP hD hS hf
def l_X8_month_163  (K206 : Int32 → (Nat → Int32) → Option (Int32 × (Nat → Int32))) (n : Nat) (x2 : Int32) (x3 : Int32) (tt : Nat → Int32) : Option (Int32 × (Nat → Int32)) := itr (fun (k : Int32 × Int32 × (Nat → Int32) → Option (Int32 × (Nat → Int32))) (z : Int32 × Int32 × (Nat → Int32)) => f_X8_month_163 z.1 z.2.1 z.2.2 (fun x2 x3 tt => k (x2, x3, tt)) K206) n (x2, x3, tt)
set_option maxHeartbeats 4000000 in
set_option maxRecDepth 100000 in
theorem w_X8_month_163 {p : Program} {l : Launch} {e : Env} {s : State} {m : MethodId} {args : Array Value} {below : List Frame} {meth : Method} {c : Code} {Q : State → Prop} {dC : Nat → ClassId} {dI : Nat → Nat → Nat} {cs : Nat → ClassId} {A : Nat → Prop} {a : Nat} {res : Int32 × (Nat → Int32)} (C : CallFix p m c cX8_month 6 s args wsX8_month RX8) (G : GE dC dI cs s) (hA : ∀ q : Nat, s.heap.size ≤ q → A q) (hR : RTi p l e ({ frames := 2, cells := 0, slots := 0, locals := 45 }) s m args below meth c cX8_month Q (dC, dI) A (fun u : (Nat → Int32) => (wA cs a 362 u)) res)  {K206 : Int32 → (Nat → Int32) → Option (Int32 × (Nat → Int32))} (hK206 : ∀ (x2 : Int32) (tt : Nat → Int32) (H : Heap) (locs : List Loc) (ls : Array Slot), lv_has ls 6 [(0, .ref a), (2, .int (x2))] → va_P (dC, dI) vwCl (wA cs a 362 tt) H → va_D A (wA cs a 362 tt) → va_S A s.heap H locs → K206 x2 tt = some res → W p l e ({ frames := 2, cells := 0, slots := 0, locals := 45 }) s m args below meth c H locs 0 0 Q (F0 m 206 ls [])) : ∀ (n : Nat) (x2 : Int32) (x3 : Int32) (tt : Nat → Int32) (H : Heap) (locs : List Loc) (ls : Array Slot), lv_has ls 6 [(0, .ref a), (2, .int (x2)), (3, .int (x3))] → va_P (dC, dI) vwCl (wA cs a 362 tt) H → va_D A (wA cs a 362 tt) → va_S A s.heap H locs → l_X8_month_163 K206 n x2 x3 tt = some res → W p l e ({ frames := 2, cells := 0, slots := 0, locals := 45 }) s m args below meth c H locs 0 0 Q (F0 m 163 ls []) := by
  intro n
  induction n with
  | zero => intro x2 x3 tt H locs ls hl hP hD hS hf; exact absurd hf (by simp [l_X8_month_163, itr])
  | succ n ih => intro x2 x3 tt H locs ls hl hP hD hS hf; exact b_X8_month_163 C G hA hR x2 x3 tt (K163 := fun x2 x3 tt => l_X8_month_163 K206 n x2 x3 tt) (fun x2 x3 tt H locs ls hl hP hD hS hf => ih x2 x3 tt H locs ls hl hP hD hS hf) hK206 H locs ls hl hP hD hS hf
def f_X8_month_206 (x2 : Int32) (tt : Nat → Int32)  : Option (Int32 × (Nat → Int32)) :=
  gi ((2 : Int32)) 362 <|
  gi ((2 : Int32)) 362 <|
  lett (upd tt ((2 : Int32)).toNatClampNeg (((tt ((2 : Int32)).toNatClampNeg) + (1 : Int32)))) fun tt_212 =>
  some (x2, tt_212)
set_option maxHeartbeats 4000000 in
set_option maxRecDepth 100000 in
theorem b_X8_month_206 {p : Program} {l : Launch} {e : Env} {s : State} {m : MethodId} {args : Array Value} {below : List Frame} {meth : Method} {c : Code} {Q : State → Prop} {dC : Nat → ClassId} {dI : Nat → Nat → Nat} {cs : Nat → ClassId} {A : Nat → Prop} {a : Nat} {res : Int32 × (Nat → Int32)} (C : CallFix p m c cX8_month 6 s args wsX8_month RX8) (G : GE dC dI cs s) (hA : ∀ q : Nat, s.heap.size ≤ q → A q) (hR : RTi p l e ({ frames := 2, cells := 0, slots := 0, locals := 45 }) s m args below meth c cX8_month Q (dC, dI) A (fun u : (Nat → Int32) => (wA cs a 362 u)) res) (x2 : Int32) (tt : Nat → Int32)   (H : Heap) (locs : List Loc) (ls : Array Slot) (hl : lv_has ls 6 [(0, .ref a), (2, .int (x2))]) (hP : va_P (dC, dI) vwCl (wA cs a 362 tt) H) (hD : va_D A (wA cs a 362 tt)) (hS : va_S A s.heap H locs) (hf : f_X8_month_206 x2 tt = some res) : W p l e ({ frames := 2, cells := 0, slots := 0, locals := 45 }) s m args below meth c H locs 0 0 Q (F0 m 206 ls []) := by
  obtain ⟨hx, hb, hml, hown, hts⟩ := id C
  obtain ⟨hK, hN⟩ := id G
  unfold f_X8_month_206 at hf
  refine lv_aload_n hx hb dX8_month_206 rfl (lv_at hl 0 rfl) ?_
  refine lv_iconst (v := 2) hx hb dX8_month_207 (by decide) ?_
  refine lv_dup2_11 hx hb dX8_month_208 rfl rfl ?_
  obtain ⟨hi1, hf⟩ := gi_e hf
  refine va_iald hx hb hK hP 0 0 rfl rfl hi1 dX8_month_209 ?_
  refine lv_iconst (v := 1) hx hb dX8_month_210 (by decide) ?_
  refine lv_iadd hx hb dX8_month_211 ?_
  obtain ⟨hi2, hf⟩ := gi_e hf
  refine va_iast hx hb hK hP hD hS 0 0 rfl rfl hi2 dX8_month_212 (fun H locs hP hD hS => ?_)
  obtain ⟨tt_212, hP, hD, hf⟩ := st_nm (ws := fun tt_212 : Nat → Int32 => (wA cs a 362 tt_212)) (upd tt ((2 : Int32)).toNatClampNeg (((tt ((2 : Int32)).toNatClampNeg) + (1 : Int32)))) hP hD hf
  refine lv_iload_n hx hb dX8_month_213 rfl (lv_at hl 1 rfl) ?_
  exact hR _ _ _ _ _ _ dX8_month_214 hf hP hD hS
def f_X8_month_159 (tt : Nat → Int32)  : Option (Int32 × (Nat → Int32)) :=
  lett (0 : Int32) fun x2_160 =>
  lett (0 : Int32) fun x3_162 =>
  l_X8_month_163 (fun x2 ttz => f_X8_month_206 x2 ttz) FU x2_160 x3_162 tt
set_option maxHeartbeats 4000000 in
set_option maxRecDepth 100000 in
theorem b_X8_month_159 {p : Program} {l : Launch} {e : Env} {s : State} {m : MethodId} {args : Array Value} {below : List Frame} {meth : Method} {c : Code} {Q : State → Prop} {dC : Nat → ClassId} {dI : Nat → Nat → Nat} {cs : Nat → ClassId} {A : Nat → Prop} {a : Nat} {res : Int32 × (Nat → Int32)} (C : CallFix p m c cX8_month 6 s args wsX8_month RX8) (G : GE dC dI cs s) (hA : ∀ q : Nat, s.heap.size ≤ q → A q) (hR : RTi p l e ({ frames := 2, cells := 0, slots := 0, locals := 45 }) s m args below meth c cX8_month Q (dC, dI) A (fun u : (Nat → Int32) => (wA cs a 362 u)) res) (tt : Nat → Int32)   (H : Heap) (locs : List Loc) (ls : Array Slot) (hl : lv_has ls 6 [(0, .ref a)]) (hP : va_P (dC, dI) vwCl (wA cs a 362 tt) H) (hD : va_D A (wA cs a 362 tt)) (hS : va_S A s.heap H locs) (hf : f_X8_month_159 tt = some res) : W p l e ({ frames := 2, cells := 0, slots := 0, locals := 45 }) s m args below meth c H locs 0 0 Q (F0 m 159 ls []) := by
  obtain ⟨hx, hb, hml, hown, hts⟩ := id C
  obtain ⟨hK, hN⟩ := id G
  unfold f_X8_month_159 at hf
  refine lv_iconst (v := 0) hx hb dX8_month_159 (by decide) ?_
  refine lv_topi (fun x2_160 ex2_160 => ?_)
  replace hf := lett_s ex2_160 hf
  refine lv_istore_n (lv' := [(2, .int (x2_160)), (0, .ref a)]) hx hb dX8_month_160 rfl hl (by decide) rfl (fun ls hl => ?_)
  refine lv_iconst (v := 0) hx hb dX8_month_161 (by decide) ?_
  refine lv_topi (fun x3_162 ex3_162 => ?_)
  replace hf := lett_s ex3_162 hf
  refine lv_istore_n (lv' := [(3, .int (x3_162)), (2, .int (x2_160)), (0, .ref a)]) hx hb dX8_month_162 rfl hl (by decide) rfl (fun ls hl => ?_)
  exact w_X8_month_163 C G hA hR (fun x2 ttz H locs ls hl hP hD hS hf => b_X8_month_206 C G hA hR x2 ttz _ _ _ hl hP hD hS hf) FU x2_160 x3_162 tt _ _ _ (lv_sub hl [2, 1, 0] rfl) hP hD hS hf
def f_X8_month_126 (tt : Nat → Int32)  : Option (Int32 × (Nat → Int32)) :=
  lett (0 : Int32) fun x2_127 =>
  l_X8_month_128 (fun ttz => f_X8_month_159 ttz) FU x2_127 tt
set_option maxHeartbeats 4000000 in
set_option maxRecDepth 100000 in
theorem b_X8_month_126 {p : Program} {l : Launch} {e : Env} {s : State} {m : MethodId} {args : Array Value} {below : List Frame} {meth : Method} {c : Code} {Q : State → Prop} {dC : Nat → ClassId} {dI : Nat → Nat → Nat} {cs : Nat → ClassId} {A : Nat → Prop} {a : Nat} {res : Int32 × (Nat → Int32)} (C : CallFix p m c cX8_month 6 s args wsX8_month RX8) (G : GE dC dI cs s) (hA : ∀ q : Nat, s.heap.size ≤ q → A q) (hR : RTi p l e ({ frames := 2, cells := 0, slots := 0, locals := 45 }) s m args below meth c cX8_month Q (dC, dI) A (fun u : (Nat → Int32) => (wA cs a 362 u)) res) (tt : Nat → Int32)   (H : Heap) (locs : List Loc) (ls : Array Slot) (hl : lv_has ls 6 [(0, .ref a)]) (hP : va_P (dC, dI) vwCl (wA cs a 362 tt) H) (hD : va_D A (wA cs a 362 tt)) (hS : va_S A s.heap H locs) (hf : f_X8_month_126 tt = some res) : W p l e ({ frames := 2, cells := 0, slots := 0, locals := 45 }) s m args below meth c H locs 0 0 Q (F0 m 126 ls []) := by
  obtain ⟨hx, hb, hml, hown, hts⟩ := id C
  obtain ⟨hK, hN⟩ := id G
  unfold f_X8_month_126 at hf
  refine lv_iconst (v := 0) hx hb dX8_month_126 (by decide) ?_
  refine lv_topi (fun x2_127 ex2_127 => ?_)
  replace hf := lett_s ex2_127 hf
  refine lv_istore_n (lv' := [(2, .int (x2_127)), (0, .ref a)]) hx hb dX8_month_127 rfl hl (by decide) rfl (fun ls hl => ?_)
  exact w_X8_month_128 C G hA hR (fun ttz H locs ls hl hP hD hS hf => b_X8_month_159 C G hA hR ttz _ _ _ hl hP hD hS hf) FU x2_127 tt _ _ _ (lv_sub hl [1, 0] rfl) hP hD hS hf
def f_X8_month (x1 : Int32) (tt : Nat → Int32) : Option (Int32 × (Nat → Int32)) :=
  lett (0 : Int32) fun x2_1 =>
  l_X8_month_2 x1 (fun ttz => f_X8_month_126 ttz) FU x2_1 tt
set_option maxHeartbeats 4000000 in
set_option maxRecDepth 100000 in
theorem c_X8_month (l : Launch) (dC : Nat → ClassId) (dI : Nat → Nat → Nat) (cs : Nat → ClassId) (a : Nat) (sz : Nat) (tt : Nat → Int32) (x1 : Int32) (res : Int32 × (Nat → Int32)) (hf : f_X8_month x1 tt = some res) : Met l yX8_month wsX8_month ({ frames := 2, cells := 0, slots := 0, locals := 45 }) (va_Pc [.ref a, .int (x1)] (fun U => U.heap.size = sz ∧ va_P (dC, dI) vwCl (wA cs a 362 tt) U.heap ∧ GE dC dI cs U ∧ va_D (fun _ => True) (wA cs a 362 tt))) (va_Qi (fun r (u : (Nat → Int32)) => r = res.1 ∧ u = res.2) (fun u t => va_P (dC, dI) vwCl ((fun u : (Nat → Int32) => (wA cs a 362 u)) u) t.heap ∧ va_D (va_A (wA cs a 362 tt) sz) ((fun u : (Nat → Int32) => (wA cs a 362 u)) u)) (va_A (wA cs a 362 tt) sz)) 0 0 (va_A (wA cs a 362 tt) sz) := by
  refine Met.ofW (cc := cX8_month) (maxL := 6) (ret := (some .int)) (by decide) rfl ?_
  intro p e s m args below meth c s₁ Bd hml hv
  obtain ⟨rfl, hsz, hP, G, hD0⟩ := hv
  have hts := atoms_spec (ws := wsX8_month) Bd.pre
  have hown : s.vm.findClass RX8 = some m.cls := findClass_of_methodNamed Bd.named
  have hlocks := Bd.notSynchronized
  have hx := Bd.exec
  have hb := Bd.bytes
  have hr := Bd.returns
  have C : CallFix p m c cX8_month 6 s _ wsX8_month RX8 := ⟨hx, hb, hml, hown, hts⟩
  obtain ⟨hK, hN⟩ := id G
  subst hsz
  have hD := hD0.self (sz := s.heap.size)
  generalize hAe : va_A (wA cs a 362 tt) s.heap.size = A at hD ⊢
  have hA : ∀ q : Nat, s.heap.size ≤ q → A q := fun q h => by rw [← hAe]; exact Or.inr h
  have hS : va_S A s.heap s.heap [] := va_S.rf
  have hR : RTi p l e ({ frames := 2, cells := 0, slots := 0, locals := 45 }) s m ([.ref a, .int (x1)] : List Value).toArray below meth c cX8_month (MQ below (va_Qi (fun r (u : (Nat → Int32)) => r = res.1 ∧ u = res.2) (fun u t => va_P (dC, dI) vwCl ((fun u : (Nat → Int32) => (wA cs a 362 u)) u) t.heap ∧ va_D A ((fun u : (Nat → Int32) => (wA cs a 362 u)) u)) A) ([.ref a, .int (x1)] : List Value).toArray s 0 0 A) (dC, dI) A (fun u : (Nat → Int32) => (wA cs a 362 u)) res := fun H locs pc ls r u dd h hP hD hS => W.iret hx hb hr (fun t ht hW => ⟨⟨r, u, rfl, by cases h; exact ⟨rfl, rfl⟩, by rw [ht]; exact hP, hD⟩, hS.F ht⟩) hS.2.2 dd
  have hl := lv_entry ([.ref a, .int (x1)]) (n := 6) (Nat.le_of_ble_eq_true rfl)
  rw [lg_entry_eq]
  generalize (lg_sl ([.ref a, .int (x1)]) ++ List.replicate (6 - (lg_sl ([.ref a, .int (x1)])).length) Slot.unset).toArray = ls at hl ⊢
  have hl : lv_has ls 6 [(0, .ref a), (1, .int (x1))] := hl
  unfold f_X8_month at hf
  refine lv_iconst (v := 0) hx hb dX8_month_0 (by decide) ?_
  refine lv_topi (fun x2_1 ex2_1 => ?_)
  replace hf := lett_s ex2_1 hf
  refine lv_istore_n (lv' := [(2, .int (x2_1)), (0, .ref a), (1, .int (x1))]) hx hb dX8_month_1 rfl hl (by decide) rfl (fun ls hl => ?_)
  exact w_X8_month_2 C G hA hR x1 (fun ttz H locs ls hl hP hD hS hf => b_X8_month_126 C G hA hR ttz _ _ _ hl hP hD hS hf) FU x2_1 tt _ _ _ (lv_sub hl [1, 2, 0] rfl) hP hD hS hf

theorem in_X8_pass_X8 : ∀ w ∈ wsX80, w ∈ wsX8_pass := by decide +kernel
def f_X8_pass_19 (x1 : Int32) (x2 : Int32) (x3 : Int32) (M : Ms) (K19 : Int32 → Int32 → Ms → Option (Int32 × Ms)) : Option (Int32 × Ms) :=
  if x1 ≤ x3 then (
    some (x2, M)
  ) else (
    bn (f_X8_knows M) fun r25 =>
    bn (f_X8_month (0 : Int32) (r25.2.2 0)) fun r34 =>
    lett ((r25.1, r25.2.1, va_up r25.2.2 0 (r34.2))) fun M_34 =>
    lett (x2 + r34.1) fun x2_38 =>
    lett (x3 + 1) fun x3_39 =>
    K19 x2_38 x3_39 M_34
  )
set_option maxHeartbeats 4000000 in
set_option maxRecDepth 100000 in
theorem b_X8_pass_19 {p : Program} {l : Launch} {e : Env} {s : State} {m : MethodId} {args : Array Value} {below : List Frame} {meth : Method} {c : Code} {Q : State → Prop} {dC : Nat → ClassId} {dI : Nat → Nat → Nat} {cs : Nat → ClassId} {A : Nat → Prop} {a : Nat → Nat} {res : Int32 × Ms} (C : CallFix p m c cX8_pass 4 s args wsX8_pass RX8) (G : GE dC dI cs s) (hA : ∀ q : Nat, s.heap.size ≤ q → A q) (hR : RTi p l e ({ frames := 3, cells := 0, slots := 0, locals := 70 }) s m args below meth c cX8_pass Q (dC, dI) A (fun u : Ms => (wM cs a u)) res) (x1 : Int32) (x2 : Int32) (x3 : Int32) (M : Ms) {K19 : Int32 → Int32 → Ms → Option (Int32 × Ms)} (hK19 : ∀ (x2 : Int32) (x3 : Int32) (M : Ms) (H : Heap) (locs : List Loc) (ls : Array Slot), lv_has ls 4 [(0, .ref (a 0)), (1, .int (x1)), (2, .int (x2)), (3, .int (x3))] → va_P (dC, dI) vwCl (wM cs a M) H → va_D A (wM cs a M) → va_S A s.heap H locs → K19 x2 x3 M = some res → W p l e ({ frames := 3, cells := 0, slots := 0, locals := 70 }) s m args below meth c H locs 0 0 Q (F0 m 19 ls [])) (H : Heap) (locs : List Loc) (ls : Array Slot) (hl : lv_has ls 4 [(0, .ref (a 0)), (1, .int (x1)), (2, .int (x2)), (3, .int (x3))]) (hP : va_P (dC, dI) vwCl (wM cs a M) H) (hD : va_D A (wM cs a M)) (hS : va_S A s.heap H locs) (hf : f_X8_pass_19 x1 x2 x3 M K19 = some res) : W p l e ({ frames := 3, cells := 0, slots := 0, locals := 70 }) s m args below meth c H locs 0 0 Q (F0 m 19 ls []) := by
  obtain ⟨hx, hb, hml, hown, hts⟩ := id C
  obtain ⟨hK, hN⟩ := id G
  unfold f_X8_pass_19 at hf
  refine lv_iload_n hx hb dX8_pass_19 rfl (lv_at hl 3 rfl) ?_
  refine lv_iload_n hx hb dX8_pass_20 rfl (lv_at hl 1 rfl) ?_
  refine lv_icmp_ge (tgt := 45) hx hb dX8_pass_21 (by decide) (fun c1 => ?_) (fun c1 => ?_)
  · replace hf := it_t c1 hf
    refine lv_iload_n hx hb dX8_pass_45 rfl (lv_at hl 2 rfl) ?_
    exact hR _ _ _ _ _ _ dX8_pass_46 hf hP hD hS
  · replace hf := it_f c1 hf
    refine lv_aload_n hx hb dX8_pass_24 rfl (lv_at hl 0 rfl) ?_
    obtain ⟨r25, hr25, hf⟩ := bn_e hf
    have hPc := hP.sub (ws' := (wM cs a M)) [0, 1, 2, 3, 4, 5, 6, 7, 8, 9, 10, 11] rfl
    have hDc := hD.sub (ws' := (wM cs a M)) [0, 1, 2, 3, 4, 5, 6, 7, 8, 9, 10, 11] (by decide) rfl
    have hFc := va_free (wc := (wM cs a M)) hD hS hA [0, 1, 2, 3, 4, 5, 6, 7, 8, 9, 10, 11] rfl
    refine va_callv (va_runV (As := []) (rest := []) C (c_X8_knows l dC dI cs a H.size M r25 hr25) (cwV 0 hts gX8_pass_X8_knows rfl rfl rfl (by decide +kernel) ⟨Nat.le_of_ble_eq_true rfl, Nat.le_of_ble_eq_true rfl⟩) ⟨(fun a U g mk q => ⟨q.1, q.2.1, q.2.2.1, GE.calling q.2.2.2.1, q.2.2.2.2⟩), va_recv hK hPc (ci := 8) (q0 := 0) rfl rfl, (fun U hU hW => ⟨rfl, by rw [hU], by rw [hU]; exact hPc, GE.warm hW G, hDc.weaken (fun _ _ _ _ => trivial)⟩)⟩ rfl rfl hl.1 rfl (lv_room (Nat.le_of_ble_eq_true rfl)) dX8_pass_25 ⟨Nat.le_of_ble_eq_true rfl, Nat.le_of_ble_eq_true rfl⟩) hS (fun q _ h => hFc q h) hFc (fun u t H1 locs ht hvm hw hB hz1 hk1 hS => ?_)
    obtain rfl := hw.symm
    obtain ⟨hP1, hD1⟩ := hB
    rw [ht] at hP1
    obtain ⟨hP, hD⟩ := va_join (wr := []) (w1 := (wM cs a r25)) hP hD [0, 1, 2, 3, 4, 5, 6, 7, 8, 9, 10, 11] [] rfl rfl (by decide) (by decide) hk1 hFc hP1 hD1
    generalize H1 = H at hP hS ⊢
    have hP := hP.sub (ws' := (wM cs a r25)) [0, 1, 2, 3, 4, 5, 6, 7, 8, 9, 10, 11] rfl
    have hD := hD.sub (ws' := (wM cs a r25)) [0, 1, 2, 3, 4, 5, 6, 7, 8, 9, 10, 11] (by decide) rfl
    refine lv_iload_n hx hb dX8_pass_28 rfl (lv_at hl 2 rfl) ?_
    refine lv_aload_n hx hb dX8_pass_29 rfl (lv_at hl 0 rfl) ?_
    refine va_get (D := (dC, dI)) (ci := 8) (v := .ref (a 1)) (C := RX8) (T := TX8) (N := 20) hx hb hts in_X8_pass_X8 hown hK hP 0 rfl rfl 0 (by decide) (hts (.fieldLink RX8 7 "BackLoansModel" "now" "[I") (by decide +kernel)) (fun _ h9 => h9) rfl dX8_pass_30 ?_
    refine lv_iconst (v := 0) hx hb dX8_pass_33 (by decide) ?_
    obtain ⟨r34, hr34, hf⟩ := bn_e hf
    have hPc := hP.sub (ws' := (wA cs (a 1) 362 (r25.2.2 0))) [1] rfl
    have hDc := hD.sub (ws' := (wA cs (a 1) 362 (r25.2.2 0))) [1] (by decide) rfl
    have hFc := va_free (wc := (wA cs (a 1) 362 (r25.2.2 0))) hD hS hA [1] rfl
    refine va_calli (va_runS (As := [.ref (a 1), .int ((0 : Int32))]) (rest := [.int (x2)]) C (c_X8_month l dC dI cs (a 1) H.size (r25.2.2 0) (0 : Int32) r34 hr34) (va_cwS 2 hts gX8_pass_X8_month rfl rfl rfl (by decide +kernel) ⟨Nat.le_of_ble_eq_true rfl, Nat.le_of_ble_eq_true rfl⟩) ⟨(fun a U g mk q => ⟨q.1, q.2.1, q.2.2.1, GE.calling q.2.2.2.1, q.2.2.2.2⟩), (fun U hU hW => ⟨rfl, by rw [hU], by rw [hU]; exact hPc, GE.warm hW G, hDc.weaken (fun _ _ _ _ => trivial)⟩)⟩ rfl rfl hl.1 rfl (lv_room (Nat.le_of_ble_eq_true rfl)) dX8_pass_34 ⟨Nat.le_of_ble_eq_true rfl, Nat.le_of_ble_eq_true rfl⟩) hS (fun q _ h => hFc q h) hFc (fun q u t H1 locs ht hvm hw hB hz1 hk1 hS => ?_)
    obtain ⟨rfl, rfl⟩ := hw
    obtain ⟨hP1, hD1⟩ := hB
    rw [ht] at hP1
    obtain ⟨hP, hD⟩ := va_join (wr := [0, 2, 3, 4, 5, 6, 7, 8, 9, 10, 11].filterMap (fun i => ((wM cs a r25))[i]?)) (w1 := (wA cs (a 1) 362 r34.2)) hP hD [1] [0, 2, 3, 4, 5, 6, 7, 8, 9, 10, 11] rfl rfl (by decide) (by decide) hk1 hFc hP1 hD1
    generalize H1 = H at hP hS ⊢
    have hP := hP.sub (ws' := (wM cs a (r25.1, r25.2.1, va_up r25.2.2 0 (r34.2)))) [0, 11, 1, 2, 3, 4, 5, 6, 7, 8, 9, 10] rfl
    have hD := hD.sub (ws' := (wM cs a (r25.1, r25.2.1, va_up r25.2.2 0 (r34.2)))) [0, 11, 1, 2, 3, 4, 5, 6, 7, 8, 9, 10] (by decide) rfl
    obtain ⟨M_34, hP, hD, hf⟩ := st_nm (ws := fun M_34 : Ms => (wM cs a M_34)) ((r25.1, r25.2.1, va_up r25.2.2 0 (r34.2))) hP hD hf
    refine lv_iadd hx hb dX8_pass_37 ?_
    refine lv_topi (fun x2_38 ex2_38 => ?_)
    replace hf := lett_s ex2_38 hf
    refine lv_istore_n (lv' := [(2, .int (x2_38)), (0, .ref (a 0)), (1, .int (x1)), (3, .int (x3))]) hx hb dX8_pass_38 rfl hl (by decide) rfl (fun ls hl => ?_)
    obtain ⟨x3_39, ex3_39⟩ : ∃ y : Int32, y = (x3 + 1) := ⟨_, rfl⟩
    replace hf := lett_s ex3_39 hf
    refine lv_iinc (v := x3_39) (lv' := [(3, .int (x3_39)), (2, .int (x2_38)), (0, .ref (a 0)), (1, .int (x1))]) hx hb dX8_pass_39 hl (k := 3) rfl (by rw [ex3_39]; rfl) (by decide) rfl (fun ls hl => ?_)
    refine lv_goto (tgt := 19) hx hb dX8_pass_42 (by decide) ?_
    exact hK19 x2_38 x3_39 M_34 _ _ _ (lv_sub hl [2, 3, 1, 0] rfl) hP hD hS hf
def l_X8_pass_19 (x1 : Int32)  (n : Nat) (x2 : Int32) (x3 : Int32) (M : Ms) : Option (Int32 × Ms) := itr (fun (k : Int32 × Int32 × Ms → Option (Int32 × Ms)) (z : Int32 × Int32 × Ms) => f_X8_pass_19 x1 z.1 z.2.1 z.2.2 (fun x2 x3 M => k (x2, x3, M))) n (x2, x3, M)
set_option maxHeartbeats 4000000 in
set_option maxRecDepth 100000 in
theorem w_X8_pass_19 {p : Program} {l : Launch} {e : Env} {s : State} {m : MethodId} {args : Array Value} {below : List Frame} {meth : Method} {c : Code} {Q : State → Prop} {dC : Nat → ClassId} {dI : Nat → Nat → Nat} {cs : Nat → ClassId} {A : Nat → Prop} {a : Nat → Nat} {res : Int32 × Ms} (C : CallFix p m c cX8_pass 4 s args wsX8_pass RX8) (G : GE dC dI cs s) (hA : ∀ q : Nat, s.heap.size ≤ q → A q) (hR : RTi p l e ({ frames := 3, cells := 0, slots := 0, locals := 70 }) s m args below meth c cX8_pass Q (dC, dI) A (fun u : Ms => (wM cs a u)) res) (x1 : Int32)   : ∀ (n : Nat) (x2 : Int32) (x3 : Int32) (M : Ms) (H : Heap) (locs : List Loc) (ls : Array Slot), lv_has ls 4 [(0, .ref (a 0)), (1, .int (x1)), (2, .int (x2)), (3, .int (x3))] → va_P (dC, dI) vwCl (wM cs a M) H → va_D A (wM cs a M) → va_S A s.heap H locs → l_X8_pass_19 x1 n x2 x3 M = some res → W p l e ({ frames := 3, cells := 0, slots := 0, locals := 70 }) s m args below meth c H locs 0 0 Q (F0 m 19 ls []) := by
  intro n
  induction n with
  | zero => intro x2 x3 M H locs ls hl hP hD hS hf; exact absurd hf (by simp [l_X8_pass_19, itr])
  | succ n ih => intro x2 x3 M H locs ls hl hP hD hS hf; exact b_X8_pass_19 C G hA hR x1 x2 x3 M (K19 := fun x2 x3 M => l_X8_pass_19 x1 n x2 x3 M) (fun x2 x3 M H locs ls hl hP hD hS hf => ih x2 x3 M H locs ls hl hP hD hS hf) H locs ls hl hP hD hS hf
def f_X8_pass (x1 : Int32) (M : Ms) : Option (Int32 × Ms) :=
  bn (f_X8_in x1 (1 : Int32) (12 : Int32)) fun r4 =>
  if r4 = 0 then (
    bn (f_X8_bad M) fun r11 =>
    some (r11.1, r11.2)
  ) else (
    lett (0 : Int32) fun x2_16 =>
    lett (0 : Int32) fun x3_18 =>
    l_X8_pass_19 x1 FU x2_16 x3_18 M
  )
set_option maxHeartbeats 4000000 in
set_option maxRecDepth 100000 in
theorem c_X8_pass (l : Launch) (dC : Nat → ClassId) (dI : Nat → Nat → Nat) (cs : Nat → ClassId) (a : Nat → Nat) (sz : Nat) (M : Ms) (x1 : Int32) (res : Int32 × Ms) (hf : f_X8_pass x1 M = some res) : Met l yX8_pass wsX8_pass ({ frames := 3, cells := 0, slots := 0, locals := 70 }) (va_Pc [.ref (a 0), .int (x1)] (fun U => U.heap.size = sz ∧ va_P (dC, dI) vwCl (wM cs a M) U.heap ∧ GE dC dI cs U ∧ va_D (fun _ => True) (wM cs a M))) (va_Qi (fun r (u : Ms) => r = res.1 ∧ u = res.2) (fun u t => va_P (dC, dI) vwCl ((fun u : Ms => (wM cs a u)) u) t.heap ∧ va_D (va_A (wM cs a M) sz) ((fun u : Ms => (wM cs a u)) u)) (va_A (wM cs a M) sz)) 0 0 (va_A (wM cs a M) sz) := by
  refine Met.ofW (cc := cX8_pass) (maxL := 4) (ret := (some .int)) (by decide) rfl ?_
  intro p e s m args below meth c s₁ Bd hml hv
  obtain ⟨rfl, hsz, hP, G, hD0⟩ := hv
  have hts := atoms_spec (ws := wsX8_pass) Bd.pre
  have hown : s.vm.findClass RX8 = some m.cls := findClass_of_methodNamed Bd.named
  have hlocks := Bd.notSynchronized
  have hx := Bd.exec
  have hb := Bd.bytes
  have hr := Bd.returns
  have C : CallFix p m c cX8_pass 4 s _ wsX8_pass RX8 := ⟨hx, hb, hml, hown, hts⟩
  obtain ⟨hK, hN⟩ := id G
  subst hsz
  have hD := hD0.self (sz := s.heap.size)
  generalize hAe : va_A (wM cs a M) s.heap.size = A at hD ⊢
  have hA : ∀ q : Nat, s.heap.size ≤ q → A q := fun q h => by rw [← hAe]; exact Or.inr h
  have hS : va_S A s.heap s.heap [] := va_S.rf
  have hR : RTi p l e ({ frames := 3, cells := 0, slots := 0, locals := 70 }) s m ([.ref (a 0), .int (x1)] : List Value).toArray below meth c cX8_pass (MQ below (va_Qi (fun r (u : Ms) => r = res.1 ∧ u = res.2) (fun u t => va_P (dC, dI) vwCl ((fun u : Ms => (wM cs a u)) u) t.heap ∧ va_D A ((fun u : Ms => (wM cs a u)) u)) A) ([.ref (a 0), .int (x1)] : List Value).toArray s 0 0 A) (dC, dI) A (fun u : Ms => (wM cs a u)) res := fun H locs pc ls r u dd h hP hD hS => W.iret hx hb hr (fun t ht hW => ⟨⟨r, u, rfl, by cases h; exact ⟨rfl, rfl⟩, by rw [ht]; exact hP, hD⟩, hS.F ht⟩) hS.2.2 dd
  have hl := lv_entry ([.ref (a 0), .int (x1)]) (n := 4) (Nat.le_of_ble_eq_true rfl)
  rw [lg_entry_eq]
  generalize (lg_sl ([.ref (a 0), .int (x1)]) ++ List.replicate (4 - (lg_sl ([.ref (a 0), .int (x1)])).length) Slot.unset).toArray = ls at hl ⊢
  have hl : lv_has ls 4 [(0, .ref (a 0)), (1, .int (x1))] := hl
  unfold f_X8_pass at hf
  refine lv_iload_n hx hb dX8_pass_0 rfl (lv_at hl 1 rfl) ?_
  refine lv_iconst (v := 1) hx hb dX8_pass_1 (by decide) ?_
  refine lv_bipush (v := 12) hx hb dX8_pass_2 (by decide) ?_
  obtain ⟨r4, hr4, hf⟩ := bn_e hf
  have hPc := hP.sub (ws' := ([] : va_W)) [] rfl
  refine vp_callSi (W.runS (As := [.int (x1), .int ((1 : Int32)), .int ((12 : Int32))]) (rest := []) C (c_X8_in l dC dI cs x1 (1 : Int32) (12 : Int32) r4 hr4) (va_cwS 3 hts gX8_pass_X8_in rfl rfl rfl (by decide +kernel) ⟨Nat.le_of_ble_eq_true rfl, Nat.le_of_ble_eq_true rfl⟩) ⟨(fun a U g mk q => ⟨q.1, q.2.1, GE.calling q.2.2⟩), (fun U hU hW => ⟨rfl, by rw [hU]; exact hPc, GE.warm hW G⟩)⟩ rfl rfl hl.1 rfl (lv_room (Nat.le_of_ble_eq_true rfl)) dX8_pass_4 ⟨Nat.le_of_ble_eq_true rfl, Nat.le_of_ble_eq_true rfl⟩) (fun qr4 hqr4 => ?_)
  obtain ⟨hqr4, hnr4⟩ := hqr4
  obtain rfl := hqr4.symm
  refine lv_if_ne (tgt := 15) hx hb dX8_pass_7 (by decide) (fun c1 => ?_) (fun c1 => ?_)
  · replace hf := it_f c1 hf
    refine lv_iconst (v := 0) hx hb dX8_pass_15 (by decide) ?_
    refine lv_topi (fun x2_16 ex2_16 => ?_)
    replace hf := lett_s ex2_16 hf
    refine lv_istore_n (lv' := [(2, .int (x2_16)), (0, .ref (a 0)), (1, .int (x1))]) hx hb dX8_pass_16 rfl hl (by decide) rfl (fun ls hl => ?_)
    refine lv_iconst (v := 0) hx hb dX8_pass_17 (by decide) ?_
    refine lv_topi (fun x3_18 ex3_18 => ?_)
    replace hf := lett_s ex3_18 hf
    refine lv_istore_n (lv' := [(3, .int (x3_18)), (2, .int (x2_16)), (0, .ref (a 0)), (1, .int (x1))]) hx hb dX8_pass_18 rfl hl (by decide) rfl (fun ls hl => ?_)
    exact w_X8_pass_19 C G hA hR x1 FU x2_16 x3_18 M _ _ _ (lv_sub hl [2, 3, 1, 0] rfl) hP hD hS hf
  · replace hf := it_t c1 hf
    refine lv_aload_n hx hb dX8_pass_10 rfl (lv_at hl 0 rfl) ?_
    obtain ⟨r11, hr11, hf⟩ := bn_e hf
    have hPc := hP.sub (ws' := (wM cs a M)) [0, 1, 2, 3, 4, 5, 6, 7, 8, 9, 10, 11] rfl
    have hDc := hD.sub (ws' := (wM cs a M)) [0, 1, 2, 3, 4, 5, 6, 7, 8, 9, 10, 11] (by decide) rfl
    have hFc := va_free (wc := (wM cs a M)) hD hS hA [0, 1, 2, 3, 4, 5, 6, 7, 8, 9, 10, 11] rfl
    refine va_calli (va_runV (As := []) (rest := []) C (c_X8_bad l dC dI cs a s.heap.size M r11 hr11) (cwV 0 hts gX8_pass_X8_bad rfl rfl rfl (by decide +kernel) ⟨Nat.le_of_ble_eq_true rfl, Nat.le_of_ble_eq_true rfl⟩) ⟨(fun a U g mk q => ⟨q.1, q.2.1, q.2.2.1, GE.calling q.2.2.2.1, q.2.2.2.2⟩), va_recv hK hPc (ci := 8) (q0 := 0) rfl rfl, (fun U hU hW => ⟨rfl, by rw [hU], by rw [hU]; exact hPc, GE.warm hW G, hDc.weaken (fun _ _ _ _ => trivial)⟩)⟩ rfl rfl hl.1 rfl (lv_room (Nat.le_of_ble_eq_true rfl)) dX8_pass_11 ⟨Nat.le_of_ble_eq_true rfl, Nat.le_of_ble_eq_true rfl⟩) hS (fun q _ h => hFc q h) hFc (fun q u t H1 locs ht hvm hw hB hz1 hk1 hS => ?_)
    obtain ⟨rfl, rfl⟩ := hw
    obtain ⟨hP1, hD1⟩ := hB
    rw [ht] at hP1
    obtain ⟨hP, hD⟩ := va_join (wr := []) (w1 := (wM cs a r11.2)) hP hD [0, 1, 2, 3, 4, 5, 6, 7, 8, 9, 10, 11] [] rfl rfl (by decide) (by decide) hk1 hFc hP1 hD1
    generalize H1 = H at hP hS ⊢
    have hP := hP.sub (ws' := (wM cs a r11.2)) [0, 1, 2, 3, 4, 5, 6, 7, 8, 9, 10, 11] rfl
    have hD := hD.sub (ws' := (wM cs a r11.2)) [0, 1, 2, 3, 4, 5, 6, 7, 8, 9, 10, 11] (by decide) rfl
    exact hR _ _ _ _ _ _ dX8_pass_14 hf hP hD hS

theorem in_X8_isLoan_X8 : ∀ w ∈ wsX80, w ∈ wsX8_isLoan := by decide +kernel
def f_X8_isLoan (x1 : Int32) (M : Ms) : Option Int32 :=
  gi ((4 : Int32)) 362 <|
  bn (f_X8_in x1 (0 : Int32) (((M.2.2 0) ((4 : Int32)).toNatClampNeg) - (1 : Int32))) fun r10 =>
  some r10
set_option maxHeartbeats 4000000 in
set_option maxRecDepth 100000 in
theorem c_X8_isLoan (l : Launch) (dC : Nat → ClassId) (dI : Nat → Nat → Nat) (cs : Nat → ClassId) (a : Nat → Nat) (M : Ms) (x1 : Int32) (res : Int32) (hf : f_X8_isLoan x1 M = some res) : Met l yX8_isLoan wsX8_isLoan ({ frames := 1, cells := 0, slots := 0, locals := 22 }) (va_Pc [.ref (a 0), .int (x1)] (fun U => va_P (dC, dI) vwCl (wM cs a M) U.heap ∧ GE dC dI cs U)) (vp_Si (fun r => r = res ∧ narrow .boolean (.int r) = .int r)) 0 0 (fun _ => False) := by
  refine Met.ofW (cc := cX8_isLoan) (maxL := 2) (ret := (some .boolean)) (by decide) rfl ?_
  intro p e s m args below meth c s₁ Bd hml hv
  obtain ⟨rfl, hP, G⟩ := hv
  have hts := atoms_spec (ws := wsX8_isLoan) Bd.pre
  have hown : s.vm.findClass RX8 = some m.cls := findClass_of_methodNamed Bd.named
  have hlocks := Bd.notSynchronized
  have hx := Bd.exec
  have hb := Bd.bytes
  have hr := Bd.returns
  have C : CallFix p m c cX8_isLoan 2 s _ wsX8_isLoan RX8 := ⟨hx, hb, hml, hown, hts⟩
  obtain ⟨hK, hN⟩ := id G
  have hR : RPz p l e ({ frames := 1, cells := 0, slots := 0, locals := 22 }) s m ([.ref (a 0), .int (x1)] : List Value).toArray below meth c cX8_isLoan (MQ below (vp_Si (fun r => r = res ∧ narrow .boolean (.int r) = .int r)) ([.ref (a 0), .int (x1)] : List Value).toArray s 0 0 (fun _ => False)) res := fun pc ls r dd hn h => W.zret hx hb hr hn (fun t ht hW => ⟨r, rfl, ⟨Option.some.inj h, hn⟩, ht⟩) (fun q hq => by cases hq) dd
  have hl := lv_entry ([.ref (a 0), .int (x1)]) (n := 2) (Nat.le_of_ble_eq_true rfl)
  rw [lg_entry_eq]
  generalize (lg_sl ([.ref (a 0), .int (x1)]) ++ List.replicate (2 - (lg_sl ([.ref (a 0), .int (x1)])).length) Slot.unset).toArray = ls at hl ⊢
  have hl : lv_has ls 2 [(0, .ref (a 0)), (1, .int (x1))] := hl
  unfold f_X8_isLoan at hf
  refine lv_iload_n hx hb dX8_isLoan_0 rfl (lv_at hl 1 rfl) ?_
  refine lv_iconst (v := 0) hx hb dX8_isLoan_1 (by decide) ?_
  refine lv_aload_n hx hb dX8_isLoan_2 rfl (lv_at hl 0 rfl) ?_
  refine va_get (D := (dC, dI)) (ci := 8) (v := .ref (a 1)) (C := RX8) (T := TX8) (N := 20) hx hb hts in_X8_isLoan_X8 hown hK hP 0 rfl rfl 0 (by decide) (hts (.fieldLink RX8 7 "BackLoansModel" "now" "[I") (by decide +kernel)) (fun _ h9 => h9) rfl dX8_isLoan_3 ?_
  refine lv_iconst (v := 4) hx hb dX8_isLoan_6 (by decide) ?_
  obtain ⟨hi1, hf⟩ := gi_e hf
  refine va_iald hx hb hK hP 1 0 rfl rfl hi1 dX8_isLoan_7 ?_
  refine lv_iconst (v := 1) hx hb dX8_isLoan_8 (by decide) ?_
  refine lv_isub hx hb dX8_isLoan_9 ?_
  obtain ⟨r10, hr10, hf⟩ := bn_e hf
  have hPc := hP.sub (ws' := ([] : va_W)) [] rfl
  refine vp_callSi (W.runS (As := [.int (x1), .int ((0 : Int32)), .int ((((M.2.2 0) ((4 : Int32)).toNatClampNeg) - (1 : Int32)))]) (rest := []) C (c_X8_in l dC dI cs x1 (0 : Int32) (((M.2.2 0) ((4 : Int32)).toNatClampNeg) - (1 : Int32)) r10 hr10) (va_cwS 3 hts gX8_isLoan_X8_in rfl rfl rfl (by decide +kernel) ⟨Nat.le_of_ble_eq_true rfl, Nat.le_of_ble_eq_true rfl⟩) ⟨(fun a U g mk q => ⟨q.1, q.2.1, GE.calling q.2.2⟩), (fun U hU hW => ⟨rfl, by rw [hU]; exact hPc, GE.warm hW G⟩)⟩ rfl rfl hl.1 rfl (lv_room (Nat.le_of_ble_eq_true rfl)) dX8_isLoan_10 ⟨Nat.le_of_ble_eq_true rfl, Nat.le_of_ble_eq_true rfl⟩) (fun qr10 hqr10 => ?_)
  obtain ⟨hqr10, hnr10⟩ := hqr10
  obtain rfl := hqr10.symm
  exact hR _ _ _ dX8_isLoan_13 hnr10 hf

theorem in_X8_no_X8 : ∀ w ∈ wsX80, w ∈ wsX8_no := by decide +kernel
def f_X8_no  (M : Ms) : Option (Int32 × Ms) :=
  gi ((1 : Int32)) 3 <|
  gi ((1 : Int32)) 3 <|
  lett ((M.1, M.2.1, va_up M.2.2 5 (upd (M.2.2 5) ((1 : Int32)).toNatClampNeg ((((M.2.2 5) ((1 : Int32)).toNatClampNeg) + (1 : Int32)))))) fun M_9 =>
  some ((-3 : Int32), M_9)
set_option maxHeartbeats 4000000 in
set_option maxRecDepth 100000 in
theorem c_X8_no (l : Launch) (dC : Nat → ClassId) (dI : Nat → Nat → Nat) (cs : Nat → ClassId) (a : Nat → Nat) (sz : Nat) (M : Ms)  (res : Int32 × Ms) (hf : f_X8_no M = some res) : Met l yX8_no wsX8_no ({ frames := 0, cells := 0, slots := 0, locals := 0 }) (va_Pc [.ref (a 0)] (fun U => U.heap.size = sz ∧ va_P (dC, dI) vwCl (wM cs a M) U.heap ∧ GE dC dI cs U ∧ va_D (fun _ => True) (wM cs a M))) (va_Qi (fun r (u : Ms) => r = res.1 ∧ u = res.2) (fun u t => va_P (dC, dI) vwCl ((fun u : Ms => (wM cs a u)) u) t.heap ∧ va_D (va_A (wM cs a M) sz) ((fun u : Ms => (wM cs a u)) u)) (va_A (wM cs a M) sz)) 0 0 (va_A (wM cs a M) sz) := by
  refine Met.ofW (cc := cX8_no) (maxL := 1) (ret := (some .int)) (by decide) rfl ?_
  intro p e s m args below meth c s₁ Bd hml hv
  obtain ⟨rfl, hsz, hP, G, hD0⟩ := hv
  have hts := atoms_spec (ws := wsX8_no) Bd.pre
  have hown : s.vm.findClass RX8 = some m.cls := findClass_of_methodNamed Bd.named
  have hlocks := Bd.notSynchronized
  have hx := Bd.exec
  have hb := Bd.bytes
  have hr := Bd.returns
  have C : CallFix p m c cX8_no 1 s _ wsX8_no RX8 := ⟨hx, hb, hml, hown, hts⟩
  obtain ⟨hK, hN⟩ := id G
  subst hsz
  have hD := hD0.self (sz := s.heap.size)
  generalize hAe : va_A (wM cs a M) s.heap.size = A at hD ⊢
  have hA : ∀ q : Nat, s.heap.size ≤ q → A q := fun q h => by rw [← hAe]; exact Or.inr h
  have hS : va_S A s.heap s.heap [] := va_S.rf
  have hR : RTi p l e ({ frames := 0, cells := 0, slots := 0, locals := 0 }) s m ([.ref (a 0)] : List Value).toArray below meth c cX8_no (MQ below (va_Qi (fun r (u : Ms) => r = res.1 ∧ u = res.2) (fun u t => va_P (dC, dI) vwCl ((fun u : Ms => (wM cs a u)) u) t.heap ∧ va_D A ((fun u : Ms => (wM cs a u)) u)) A) ([.ref (a 0)] : List Value).toArray s 0 0 A) (dC, dI) A (fun u : Ms => (wM cs a u)) res := fun H locs pc ls r u dd h hP hD hS => W.iret hx hb hr (fun t ht hW => ⟨⟨r, u, rfl, by cases h; exact ⟨rfl, rfl⟩, by rw [ht]; exact hP, hD⟩, hS.F ht⟩) hS.2.2 dd
  have hl := lv_entry ([.ref (a 0)]) (n := 1) (Nat.le_of_ble_eq_true rfl)
  rw [lg_entry_eq]
  generalize (lg_sl ([.ref (a 0)]) ++ List.replicate (1 - (lg_sl ([.ref (a 0)])).length) Slot.unset).toArray = ls at hl ⊢
  have hl : lv_has ls 1 [(0, .ref (a 0))] := hl
  unfold f_X8_no at hf
  refine lv_aload_n hx hb dX8_no_0 rfl (lv_at hl 0 rfl) ?_
  refine va_get (D := (dC, dI)) (ci := 8) (v := .ref (a 6)) (C := RX8) (T := TX8) (N := 20) hx hb hts in_X8_no_X8 hown hK hP 0 rfl rfl 5 (by decide) (hts (.fieldLink RX8 26 "BackLoansModel" "refused" "[I") (by decide +kernel)) (fun _ h9 => h9) rfl dX8_no_1 ?_
  refine lv_iconst (v := 1) hx hb dX8_no_4 (by decide) ?_
  refine lv_dup2_11 hx hb dX8_no_5 rfl rfl ?_
  obtain ⟨hi1, hf⟩ := gi_e hf
  refine va_iald hx hb hK hP 6 0 rfl rfl hi1 dX8_no_6 ?_
  refine lv_iconst (v := 1) hx hb dX8_no_7 (by decide) ?_
  refine lv_iadd hx hb dX8_no_8 ?_
  obtain ⟨hi2, hf⟩ := gi_e hf
  refine va_iast hx hb hK hP hD hS 6 0 rfl rfl hi2 dX8_no_9 (fun H locs hP hD hS => ?_)
  obtain ⟨M_9, hP, hD, hf⟩ := st_nm (ws := fun M_9 : Ms => (wM cs a M_9)) ((M.1, M.2.1, va_up M.2.2 5 (upd (M.2.2 5) ((1 : Int32)).toNatClampNeg ((((M.2.2 5) ((1 : Int32)).toNatClampNeg) + (1 : Int32)))))) hP hD hf
  refine lv_bipush (v := -3) hx hb dX8_no_10 (by decide) ?_
  exact hR _ _ _ _ _ _ dX8_no_12 hf hP hD hS

theorem in_X8_join_X8 : ∀ w ∈ wsX80, w ∈ wsX8_join := by decide +kernel
def f_X8_join_21 (M : Ms)  : Option (Int32 × Ms) :=
  bn (f_X8_bad M) fun r22 =>
  some (r22.1, r22.2)
set_option maxHeartbeats 4000000 in
set_option maxRecDepth 100000 in
theorem b_X8_join_21 {p : Program} {l : Launch} {e : Env} {s : State} {m : MethodId} {args : Array Value} {below : List Frame} {meth : Method} {c : Code} {Q : State → Prop} {dC : Nat → ClassId} {dI : Nat → Nat → Nat} {cs : Nat → ClassId} {A : Nat → Prop} {a : Nat → Nat} {res : Int32 × Ms} (C : CallFix p m c cX8_join 5 s args wsX8_join RX8) (G : GE dC dI cs s) (hA : ∀ q : Nat, s.heap.size ≤ q → A q) (hR : RTi p l e ({ frames := 2, cells := 0, slots := 0, locals := 43 }) s m args below meth c cX8_join Q (dC, dI) A (fun u : Ms => (wM cs a u)) res) (M : Ms)   (H : Heap) (locs : List Loc) (ls : Array Slot) (hl : lv_has ls 5 [(0, .ref (a 0))]) (hP : va_P (dC, dI) vwCl (wM cs a M) H) (hD : va_D A (wM cs a M)) (hS : va_S A s.heap H locs) (hf : f_X8_join_21 M = some res) : W p l e ({ frames := 2, cells := 0, slots := 0, locals := 43 }) s m args below meth c H locs 0 0 Q (F0 m 21 ls []) := by
  obtain ⟨hx, hb, hml, hown, hts⟩ := id C
  obtain ⟨hK, hN⟩ := id G
  unfold f_X8_join_21 at hf
  refine lv_aload_n hx hb dX8_join_21 rfl (lv_at hl 0 rfl) ?_
  obtain ⟨r22, hr22, hf⟩ := bn_e hf
  have hPc := hP.sub (ws' := (wM cs a M)) [0, 1, 2, 3, 4, 5, 6, 7, 8, 9, 10, 11] rfl
  have hDc := hD.sub (ws' := (wM cs a M)) [0, 1, 2, 3, 4, 5, 6, 7, 8, 9, 10, 11] (by decide) rfl
  have hFc := va_free (wc := (wM cs a M)) hD hS hA [0, 1, 2, 3, 4, 5, 6, 7, 8, 9, 10, 11] rfl
  refine va_calli (va_runV (As := []) (rest := []) C (c_X8_bad l dC dI cs a H.size M r22 hr22) (cwV 0 hts gX8_join_X8_bad rfl rfl rfl (by decide +kernel) ⟨Nat.le_of_ble_eq_true rfl, Nat.le_of_ble_eq_true rfl⟩) ⟨(fun a U g mk q => ⟨q.1, q.2.1, q.2.2.1, GE.calling q.2.2.2.1, q.2.2.2.2⟩), va_recv hK hPc (ci := 8) (q0 := 0) rfl rfl, (fun U hU hW => ⟨rfl, by rw [hU], by rw [hU]; exact hPc, GE.warm hW G, hDc.weaken (fun _ _ _ _ => trivial)⟩)⟩ rfl rfl hl.1 rfl (lv_room (Nat.le_of_ble_eq_true rfl)) dX8_join_22 ⟨Nat.le_of_ble_eq_true rfl, Nat.le_of_ble_eq_true rfl⟩) hS (fun q _ h => hFc q h) hFc (fun q u t H1 locs ht hvm hw hB hz1 hk1 hS => ?_)
  obtain ⟨rfl, rfl⟩ := hw
  obtain ⟨hP1, hD1⟩ := hB
  rw [ht] at hP1
  obtain ⟨hP, hD⟩ := va_join (wr := []) (w1 := (wM cs a r22.2)) hP hD [0, 1, 2, 3, 4, 5, 6, 7, 8, 9, 10, 11] [] rfl rfl (by decide) (by decide) hk1 hFc hP1 hD1
  generalize H1 = H at hP hS ⊢
  have hP := hP.sub (ws' := (wM cs a r22.2)) [0, 1, 2, 3, 4, 5, 6, 7, 8, 9, 10, 11] rfl
  have hD := hD.sub (ws' := (wM cs a r22.2)) [0, 1, 2, 3, 4, 5, 6, 7, 8, 9, 10, 11] (by decide) rfl
  exact hR _ _ _ _ _ _ dX8_join_25 hf hP hD hS
def f_X8_join_106 (M : Ms)  : Option (Int32 × Ms) :=
  bn (f_X8_no M) fun r107 =>
  some (r107.1, r107.2)
set_option maxHeartbeats 4000000 in
set_option maxRecDepth 100000 in
theorem b_X8_join_106 {p : Program} {l : Launch} {e : Env} {s : State} {m : MethodId} {args : Array Value} {below : List Frame} {meth : Method} {c : Code} {Q : State → Prop} {dC : Nat → ClassId} {dI : Nat → Nat → Nat} {cs : Nat → ClassId} {A : Nat → Prop} {a : Nat → Nat} {res : Int32 × Ms} (C : CallFix p m c cX8_join 5 s args wsX8_join RX8) (G : GE dC dI cs s) (hA : ∀ q : Nat, s.heap.size ≤ q → A q) (hR : RTi p l e ({ frames := 2, cells := 0, slots := 0, locals := 43 }) s m args below meth c cX8_join Q (dC, dI) A (fun u : Ms => (wM cs a u)) res) (M : Ms)   (H : Heap) (locs : List Loc) (ls : Array Slot) (hl : lv_has ls 5 [(0, .ref (a 0))]) (hP : va_P (dC, dI) vwCl (wM cs a M) H) (hD : va_D A (wM cs a M)) (hS : va_S A s.heap H locs) (hf : f_X8_join_106 M = some res) : W p l e ({ frames := 2, cells := 0, slots := 0, locals := 43 }) s m args below meth c H locs 0 0 Q (F0 m 106 ls []) := by
  obtain ⟨hx, hb, hml, hown, hts⟩ := id C
  obtain ⟨hK, hN⟩ := id G
  unfold f_X8_join_106 at hf
  refine lv_aload_n hx hb dX8_join_106 rfl (lv_at hl 0 rfl) ?_
  obtain ⟨r107, hr107, hf⟩ := bn_e hf
  have hPc := hP.sub (ws' := (wM cs a M)) [0, 1, 2, 3, 4, 5, 6, 7, 8, 9, 10, 11] rfl
  have hDc := hD.sub (ws' := (wM cs a M)) [0, 1, 2, 3, 4, 5, 6, 7, 8, 9, 10, 11] (by decide) rfl
  have hFc := va_free (wc := (wM cs a M)) hD hS hA [0, 1, 2, 3, 4, 5, 6, 7, 8, 9, 10, 11] rfl
  refine va_calli (va_runV (As := []) (rest := []) C (c_X8_no l dC dI cs a H.size M r107 hr107) (cwV 0 hts gX8_join_X8_no rfl rfl rfl (by decide +kernel) ⟨Nat.le_of_ble_eq_true rfl, Nat.le_of_ble_eq_true rfl⟩) ⟨(fun a U g mk q => ⟨q.1, q.2.1, q.2.2.1, GE.calling q.2.2.2.1, q.2.2.2.2⟩), va_recv hK hPc (ci := 8) (q0 := 0) rfl rfl, (fun U hU hW => ⟨rfl, by rw [hU], by rw [hU]; exact hPc, GE.warm hW G, hDc.weaken (fun _ _ _ _ => trivial)⟩)⟩ rfl rfl hl.1 rfl (lv_room (Nat.le_of_ble_eq_true rfl)) dX8_join_107 ⟨Nat.le_of_ble_eq_true rfl, Nat.le_of_ble_eq_true rfl⟩) hS (fun q _ h => hFc q h) hFc (fun q u t H1 locs ht hvm hw hB hz1 hk1 hS => ?_)
  obtain ⟨rfl, rfl⟩ := hw
  obtain ⟨hP1, hD1⟩ := hB
  rw [ht] at hP1
  obtain ⟨hP, hD⟩ := va_join (wr := []) (w1 := (wM cs a r107.2)) hP hD [0, 1, 2, 3, 4, 5, 6, 7, 8, 9, 10, 11] [] rfl rfl (by decide) (by decide) hk1 hFc hP1 hD1
  generalize H1 = H at hP hS ⊢
  have hP := hP.sub (ws' := (wM cs a r107.2)) [0, 1, 2, 3, 4, 5, 6, 7, 8, 9, 10, 11] rfl
  have hD := hD.sub (ws' := (wM cs a r107.2)) [0, 1, 2, 3, 4, 5, 6, 7, 8, 9, 10, 11] (by decide) rfl
  exact hR _ _ _ _ _ _ dX8_join_110 hf hP hD hS
def f_X8_join_183 (x3 : Int32) (x4 : Int32) (s1 : Int32) (s2 : Int32) (M : Ms)  : Option (Int32 × Ms) :=
  gi (s1) 362 <|
  lett ((M.1, M.2.1, va_up M.2.2 0 (upd (M.2.2 0) (s1).toNatClampNeg (s2)))) fun M_183 =>
  gi ((x4 + (3 : Int32))) 362 <|
  lett ((M_183.1, M_183.2.1, va_up M_183.2.2 0 (upd (M_183.2.2 0) ((x4 + (3 : Int32))).toNatClampNeg ((4 : Int32))))) fun M_193 =>
  gi ((x3 + (3 : Int32))) 362 <|
  some (((M_193.2.2 0) ((x3 + (3 : Int32))).toNatClampNeg), M_193)
set_option maxHeartbeats 4000000 in
set_option maxRecDepth 100000 in
theorem b_X8_join_183 {p : Program} {l : Launch} {e : Env} {s : State} {m : MethodId} {args : Array Value} {below : List Frame} {meth : Method} {c : Code} {Q : State → Prop} {dC : Nat → ClassId} {dI : Nat → Nat → Nat} {cs : Nat → ClassId} {A : Nat → Prop} {a : Nat → Nat} {res : Int32 × Ms} (C : CallFix p m c cX8_join 5 s args wsX8_join RX8) (G : GE dC dI cs s) (hA : ∀ q : Nat, s.heap.size ≤ q → A q) (hR : RTi p l e ({ frames := 2, cells := 0, slots := 0, locals := 43 }) s m args below meth c cX8_join Q (dC, dI) A (fun u : Ms => (wM cs a u)) res) (x3 : Int32) (x4 : Int32) (s1 : Int32) (s2 : Int32) (M : Ms)   (H : Heap) (locs : List Loc) (ls : Array Slot) (hl : lv_has ls 5 [(0, .ref (a 0)), (3, .int (x3)), (4, .int (x4))]) (hP : va_P (dC, dI) vwCl (wM cs a M) H) (hD : va_D A (wM cs a M)) (hS : va_S A s.heap H locs) (hf : f_X8_join_183 x3 x4 s1 s2 M = some res) : W p l e ({ frames := 2, cells := 0, slots := 0, locals := 43 }) s m args below meth c H locs 0 0 Q (F0 m 183 ls [.int (s2), .int (s1), .ref (a 1)]) := by
  obtain ⟨hx, hb, hml, hown, hts⟩ := id C
  obtain ⟨hK, hN⟩ := id G
  unfold f_X8_join_183 at hf
  obtain ⟨hi1, hf⟩ := gi_e hf
  refine va_iast hx hb hK hP hD hS 1 0 rfl rfl hi1 dX8_join_183 (fun H locs hP hD hS => ?_)
  obtain ⟨M_183, hP, hD, hf⟩ := st_nm (ws := fun M_183 : Ms => (wM cs a M_183)) ((M.1, M.2.1, va_up M.2.2 0 (upd (M.2.2 0) (s1).toNatClampNeg (s2)))) hP hD hf
  refine lv_aload_n hx hb dX8_join_184 rfl (lv_at hl 0 rfl) ?_
  refine va_get (D := (dC, dI)) (ci := 8) (v := .ref (a 1)) (C := RX8) (T := TX8) (N := 20) hx hb hts in_X8_join_X8 hown hK hP 0 rfl rfl 0 (by decide) (hts (.fieldLink RX8 7 "BackLoansModel" "now" "[I") (by decide +kernel)) (fun _ h9 => h9) rfl dX8_join_185 ?_
  refine lv_iload hx hb dX8_join_188 (lv_at hl 2 rfl) ?_
  refine lv_iconst (v := 3) hx hb dX8_join_190 (by decide) ?_
  refine lv_iadd hx hb dX8_join_191 ?_
  refine lv_iconst (v := 4) hx hb dX8_join_192 (by decide) ?_
  obtain ⟨hi2, hf⟩ := gi_e hf
  refine va_iast hx hb hK hP hD hS 1 0 rfl rfl hi2 dX8_join_193 (fun H locs hP hD hS => ?_)
  obtain ⟨M_193, hP, hD, hf⟩ := st_nm (ws := fun M_193 : Ms => (wM cs a M_193)) ((M_183.1, M_183.2.1, va_up M_183.2.2 0 (upd (M_183.2.2 0) ((x4 + (3 : Int32))).toNatClampNeg ((4 : Int32))))) hP hD hf
  refine lv_aload_n hx hb dX8_join_194 rfl (lv_at hl 0 rfl) ?_
  refine va_get (D := (dC, dI)) (ci := 8) (v := .ref (a 1)) (C := RX8) (T := TX8) (N := 20) hx hb hts in_X8_join_X8 hown hK hP 0 rfl rfl 0 (by decide) (hts (.fieldLink RX8 7 "BackLoansModel" "now" "[I") (by decide +kernel)) (fun _ h9 => h9) rfl dX8_join_195 ?_
  refine lv_iload_n hx hb dX8_join_198 rfl (lv_at hl 1 rfl) ?_
  refine lv_iconst (v := 3) hx hb dX8_join_199 (by decide) ?_
  refine lv_iadd hx hb dX8_join_200 ?_
  obtain ⟨hi3, hf⟩ := gi_e hf
  refine va_iald hx hb hK hP 1 0 rfl rfl hi3 dX8_join_201 ?_
  exact hR _ _ _ _ _ _ dX8_join_202 hf hP hD hS
def f_X8_join (x1 : Int32) (x2 : Int32) (M : Ms) : Option (Int32 × Ms) :=
  bn (f_X8_isLoan x1 M) fun r2 =>
  if r2 = 0 then (
    f_X8_join_21 M
  ) else (
    bn (f_X8_isLoan x2 M) fun r10 =>
    if r10 = 0 then (
      f_X8_join_21 M
    ) else (
      if x1 = x2 then (
        f_X8_join_21 M
      ) else (
        lett ((26 : Int32) + ((5 : Int32) * x1)) fun x3_32 =>
        lett ((26 : Int32) + ((5 : Int32) * x2)) fun x4_39 =>
        gi ((x3_32 + (3 : Int32))) 362 <|
        if ((M.2.2 0) ((x3_32 + (3 : Int32))).toNatClampNeg) = (2 : Int32) then (
          gi ((x4_39 + (3 : Int32))) 362 <|
          if ((M.2.2 0) ((x4_39 + (3 : Int32))).toNatClampNeg) = (2 : Int32) then (
            gi ((x3_32 + (1 : Int32))) 362 <|
            gi ((x4_39 + (1 : Int32))) 362 <|
            if ((M.2.2 0) ((x3_32 + (1 : Int32))).toNatClampNeg) = ((M.2.2 0) ((x4_39 + (1 : Int32))).toNatClampNeg) then (
              gi ((x3_32 + (2 : Int32))) 362 <|
              gi ((x4_39 + (2 : Int32))) 362 <|
              if ((M.2.2 0) ((x3_32 + (2 : Int32))).toNatClampNeg) = ((M.2.2 0) ((x4_39 + (2 : Int32))).toNatClampNeg) then (
                bn (f_X8_knows M) fun r112 =>
                gi ((x3_32 + (2 : Int32))) 362 <|
                gi ((x3_32 + (4 : Int32))) 362 <|
                gi ((x4_39 + (4 : Int32))) 362 <|
                bn (f_X8_least ((r112.2.2 0) ((x3_32 + (2 : Int32))).toNatClampNeg) (((r112.2.2 0) ((x3_32 + (4 : Int32))).toNatClampNeg) + ((r112.2.2 0) ((x4_39 + (4 : Int32))).toNatClampNeg))) fun r148 =>
                gi ((x3_32 + (4 : Int32))) 362 <|
                lett ((r112.1, r112.2.1, va_up r112.2.2 0 (upd (r112.2.2 0) ((x3_32 + (4 : Int32))).toNatClampNeg (r148)))) fun M_151 =>
                gi ((x3_32 + (4 : Int32))) 362 <|
                gi ((x3_32 + (2 : Int32))) 362 <|
                if ((M_151.2.2 0) ((x3_32 + (4 : Int32))).toNatClampNeg) = ((M_151.2.2 0) ((x3_32 + (2 : Int32))).toNatClampNeg) then (
                  f_X8_join_183 x3_32 x4_39 (x3_32 + (3 : Int32)) (3 : Int32) M_151
                ) else (
                  f_X8_join_183 x3_32 x4_39 (x3_32 + (3 : Int32)) (2 : Int32) M_151
                )
              ) else (
                f_X8_join_106 M
              )
            ) else (
              f_X8_join_106 M
            )
          ) else (
            f_X8_join_106 M
          )
        ) else (
          f_X8_join_106 M
        )
      )
    )
  )
set_option maxHeartbeats 4000000 in
set_option maxRecDepth 100000 in
theorem c_X8_join (l : Launch) (dC : Nat → ClassId) (dI : Nat → Nat → Nat) (cs : Nat → ClassId) (a : Nat → Nat) (sz : Nat) (M : Ms) (x1 : Int32) (x2 : Int32) (res : Int32 × Ms) (hf : f_X8_join x1 x2 M = some res) : Met l yX8_join wsX8_join ({ frames := 2, cells := 0, slots := 0, locals := 43 }) (va_Pc [.ref (a 0), .int (x1), .int (x2)] (fun U => U.heap.size = sz ∧ va_P (dC, dI) vwCl (wM cs a M) U.heap ∧ GE dC dI cs U ∧ va_D (fun _ => True) (wM cs a M))) (va_Qi (fun r (u : Ms) => r = res.1 ∧ u = res.2) (fun u t => va_P (dC, dI) vwCl ((fun u : Ms => (wM cs a u)) u) t.heap ∧ va_D (va_A (wM cs a M) sz) ((fun u : Ms => (wM cs a u)) u)) (va_A (wM cs a M) sz)) 0 0 (va_A (wM cs a M) sz) := by
  refine Met.ofW (cc := cX8_join) (maxL := 5) (ret := (some .int)) (by decide) rfl ?_
  intro p e s m args below meth c s₁ Bd hml hv
  obtain ⟨rfl, hsz, hP, G, hD0⟩ := hv
  have hts := atoms_spec (ws := wsX8_join) Bd.pre
  have hown : s.vm.findClass RX8 = some m.cls := findClass_of_methodNamed Bd.named
  have hlocks := Bd.notSynchronized
  have hx := Bd.exec
  have hb := Bd.bytes
  have hr := Bd.returns
  have C : CallFix p m c cX8_join 5 s _ wsX8_join RX8 := ⟨hx, hb, hml, hown, hts⟩
  obtain ⟨hK, hN⟩ := id G
  subst hsz
  have hD := hD0.self (sz := s.heap.size)
  generalize hAe : va_A (wM cs a M) s.heap.size = A at hD ⊢
  have hA : ∀ q : Nat, s.heap.size ≤ q → A q := fun q h => by rw [← hAe]; exact Or.inr h
  have hS : va_S A s.heap s.heap [] := va_S.rf
  have hR : RTi p l e ({ frames := 2, cells := 0, slots := 0, locals := 43 }) s m ([.ref (a 0), .int (x1), .int (x2)] : List Value).toArray below meth c cX8_join (MQ below (va_Qi (fun r (u : Ms) => r = res.1 ∧ u = res.2) (fun u t => va_P (dC, dI) vwCl ((fun u : Ms => (wM cs a u)) u) t.heap ∧ va_D A ((fun u : Ms => (wM cs a u)) u)) A) ([.ref (a 0), .int (x1), .int (x2)] : List Value).toArray s 0 0 A) (dC, dI) A (fun u : Ms => (wM cs a u)) res := fun H locs pc ls r u dd h hP hD hS => W.iret hx hb hr (fun t ht hW => ⟨⟨r, u, rfl, by cases h; exact ⟨rfl, rfl⟩, by rw [ht]; exact hP, hD⟩, hS.F ht⟩) hS.2.2 dd
  have hl := lv_entry ([.ref (a 0), .int (x1), .int (x2)]) (n := 5) (Nat.le_of_ble_eq_true rfl)
  rw [lg_entry_eq]
  generalize (lg_sl ([.ref (a 0), .int (x1), .int (x2)]) ++ List.replicate (5 - (lg_sl ([.ref (a 0), .int (x1), .int (x2)])).length) Slot.unset).toArray = ls at hl ⊢
  have hl : lv_has ls 5 [(0, .ref (a 0)), (1, .int (x1)), (2, .int (x2))] := hl
  unfold f_X8_join at hf
  refine lv_aload_n hx hb dX8_join_0 rfl (lv_at hl 0 rfl) ?_
  refine lv_iload_n hx hb dX8_join_1 rfl (lv_at hl 1 rfl) ?_
  obtain ⟨r2, hr2, hf⟩ := bn_e hf
  have hPc := hP.sub (ws' := (wM cs a M)) [0, 1, 2, 3, 4, 5, 6, 7, 8, 9, 10, 11] rfl
  refine vp_callSi (W.runV (As := [.int (x1)]) (rest := []) C (c_X8_isLoan l dC dI cs a M x1 r2 hr2) (cwV 1 hts gX8_join_X8_isLoan rfl rfl rfl (by decide +kernel) ⟨Nat.le_of_ble_eq_true rfl, Nat.le_of_ble_eq_true rfl⟩) ⟨(fun a U g mk q => ⟨q.1, q.2.1, GE.calling q.2.2⟩), va_recv hK hPc (ci := 8) (q0 := 0) rfl rfl, (fun U hU hW => ⟨rfl, by rw [hU]; exact hPc, GE.warm hW G⟩)⟩ rfl rfl hl.1 rfl (lv_room (Nat.le_of_ble_eq_true rfl)) dX8_join_2 ⟨Nat.le_of_ble_eq_true rfl, Nat.le_of_ble_eq_true rfl⟩) (fun qr2 hqr2 => ?_)
  obtain ⟨hqr2, hnr2⟩ := hqr2
  obtain rfl := hqr2.symm
  refine lv_if_eq (tgt := 21) hx hb dX8_join_5 (by decide) (fun c1 => ?_) (fun c1 => ?_)
  · replace hf := it_t c1 hf
    exact b_X8_join_21 C G hA hR M _ _ _ (lv_sub hl [0] rfl) hP hD hS hf
  · replace hf := it_f c1 hf
    refine lv_aload_n hx hb dX8_join_8 rfl (lv_at hl 0 rfl) ?_
    refine lv_iload_n hx hb dX8_join_9 rfl (lv_at hl 2 rfl) ?_
    obtain ⟨r10, hr10, hf⟩ := bn_e hf
    have hPc := hP.sub (ws' := (wM cs a M)) [0, 1, 2, 3, 4, 5, 6, 7, 8, 9, 10, 11] rfl
    refine vp_callSi (W.runV (As := [.int (x2)]) (rest := []) C (c_X8_isLoan l dC dI cs a M x2 r10 hr10) (cwV 1 hts gX8_join_X8_isLoan rfl rfl rfl (by decide +kernel) ⟨Nat.le_of_ble_eq_true rfl, Nat.le_of_ble_eq_true rfl⟩) ⟨(fun a U g mk q => ⟨q.1, q.2.1, GE.calling q.2.2⟩), va_recv hK hPc (ci := 8) (q0 := 0) rfl rfl, (fun U hU hW => ⟨rfl, by rw [hU]; exact hPc, GE.warm hW G⟩)⟩ rfl rfl hl.1 rfl (lv_room (Nat.le_of_ble_eq_true rfl)) dX8_join_10 ⟨Nat.le_of_ble_eq_true rfl, Nat.le_of_ble_eq_true rfl⟩) (fun qr10 hqr10 => ?_)
    obtain ⟨hqr10, hnr10⟩ := hqr10
    obtain rfl := hqr10.symm
    refine lv_if_eq (tgt := 21) hx hb dX8_join_13 (by decide) (fun c2 => ?_) (fun c2 => ?_)
    · replace hf := it_t c2 hf
      exact b_X8_join_21 C G hA hR M _ _ _ (lv_sub hl [0] rfl) hP hD hS hf
    · replace hf := it_f c2 hf
      refine lv_iload_n hx hb dX8_join_16 rfl (lv_at hl 1 rfl) ?_
      refine lv_iload_n hx hb dX8_join_17 rfl (lv_at hl 2 rfl) ?_
      refine lv_icmp_ne (tgt := 26) hx hb dX8_join_18 (by decide) (fun c3 => ?_) (fun c3 => ?_)
      · replace hf := it_f c3 hf
        refine lv_bipush (v := 26) hx hb dX8_join_26 (by decide) ?_
        refine lv_iconst (v := 5) hx hb dX8_join_28 (by decide) ?_
        refine lv_iload_n hx hb dX8_join_29 rfl (lv_at hl 1 rfl) ?_
        refine lv_imul hx hb dX8_join_30 ?_
        refine lv_iadd hx hb dX8_join_31 ?_
        refine lv_topi (fun x3_32 ex3_32 => ?_)
        replace hf := lett_s ex3_32 hf
        refine lv_istore_n (lv' := [(3, .int (x3_32)), (0, .ref (a 0)), (1, .int (x1)), (2, .int (x2))]) hx hb dX8_join_32 rfl hl (by decide) rfl (fun ls hl => ?_)
        refine lv_bipush (v := 26) hx hb dX8_join_33 (by decide) ?_
        refine lv_iconst (v := 5) hx hb dX8_join_35 (by decide) ?_
        refine lv_iload_n hx hb dX8_join_36 rfl (lv_at hl 3 rfl) ?_
        refine lv_imul hx hb dX8_join_37 ?_
        refine lv_iadd hx hb dX8_join_38 ?_
        refine lv_topi (fun x4_39 ex4_39 => ?_)
        replace hf := lett_s ex4_39 hf
        refine lv_istore (lv' := [(4, .int (x4_39)), (3, .int (x3_32)), (0, .ref (a 0)), (1, .int (x1)), (2, .int (x2))]) hx hb dX8_join_39 hl (by decide) rfl (fun ls hl => ?_)
        refine lv_aload_n hx hb dX8_join_41 rfl (lv_at hl 2 rfl) ?_
        refine va_get (D := (dC, dI)) (ci := 8) (v := .ref (a 1)) (C := RX8) (T := TX8) (N := 20) hx hb hts in_X8_join_X8 hown hK hP 0 rfl rfl 0 (by decide) (hts (.fieldLink RX8 7 "BackLoansModel" "now" "[I") (by decide +kernel)) (fun _ h9 => h9) rfl dX8_join_42 ?_
        refine lv_iload_n hx hb dX8_join_45 rfl (lv_at hl 1 rfl) ?_
        refine lv_iconst (v := 3) hx hb dX8_join_46 (by decide) ?_
        refine lv_iadd hx hb dX8_join_47 ?_
        obtain ⟨hi4, hf⟩ := gi_e hf
        refine va_iald hx hb hK hP 1 0 rfl rfl hi4 dX8_join_48 ?_
        refine lv_iconst (v := 2) hx hb dX8_join_49 (by decide) ?_
        refine lv_icmp_ne (tgt := 106) hx hb dX8_join_50 (by decide) (fun c5 => ?_) (fun c5 => ?_)
        · replace hf := it_f c5 hf
          exact b_X8_join_106 C G hA hR M _ _ _ (lv_sub hl [2] rfl) hP hD hS hf
        · replace hf := it_t c5 hf
          refine lv_aload_n hx hb dX8_join_53 rfl (lv_at hl 2 rfl) ?_
          refine va_get (D := (dC, dI)) (ci := 8) (v := .ref (a 1)) (C := RX8) (T := TX8) (N := 20) hx hb hts in_X8_join_X8 hown hK hP 0 rfl rfl 0 (by decide) (hts (.fieldLink RX8 7 "BackLoansModel" "now" "[I") (by decide +kernel)) (fun _ h9 => h9) rfl dX8_join_54 ?_
          refine lv_iload hx hb dX8_join_57 (lv_at hl 0 rfl) ?_
          refine lv_iconst (v := 3) hx hb dX8_join_59 (by decide) ?_
          refine lv_iadd hx hb dX8_join_60 ?_
          obtain ⟨hi6, hf⟩ := gi_e hf
          refine va_iald hx hb hK hP 1 0 rfl rfl hi6 dX8_join_61 ?_
          refine lv_iconst (v := 2) hx hb dX8_join_62 (by decide) ?_
          refine lv_icmp_ne (tgt := 106) hx hb dX8_join_63 (by decide) (fun c7 => ?_) (fun c7 => ?_)
          · replace hf := it_f c7 hf
            exact b_X8_join_106 C G hA hR M _ _ _ (lv_sub hl [2] rfl) hP hD hS hf
          · replace hf := it_t c7 hf
            refine lv_aload_n hx hb dX8_join_66 rfl (lv_at hl 2 rfl) ?_
            refine va_get (D := (dC, dI)) (ci := 8) (v := .ref (a 1)) (C := RX8) (T := TX8) (N := 20) hx hb hts in_X8_join_X8 hown hK hP 0 rfl rfl 0 (by decide) (hts (.fieldLink RX8 7 "BackLoansModel" "now" "[I") (by decide +kernel)) (fun _ h9 => h9) rfl dX8_join_67 ?_
            refine lv_iload_n hx hb dX8_join_70 rfl (lv_at hl 1 rfl) ?_
            refine lv_iconst (v := 1) hx hb dX8_join_71 (by decide) ?_
            refine lv_iadd hx hb dX8_join_72 ?_
            obtain ⟨hi8, hf⟩ := gi_e hf
            refine va_iald hx hb hK hP 1 0 rfl rfl hi8 dX8_join_73 ?_
            refine lv_aload_n hx hb dX8_join_74 rfl (lv_at hl 2 rfl) ?_
            refine va_get (D := (dC, dI)) (ci := 8) (v := .ref (a 1)) (C := RX8) (T := TX8) (N := 20) hx hb hts in_X8_join_X8 hown hK hP 0 rfl rfl 0 (by decide) (hts (.fieldLink RX8 7 "BackLoansModel" "now" "[I") (by decide +kernel)) (fun _ h9 => h9) rfl dX8_join_75 ?_
            refine lv_iload hx hb dX8_join_78 (lv_at hl 0 rfl) ?_
            refine lv_iconst (v := 1) hx hb dX8_join_80 (by decide) ?_
            refine lv_iadd hx hb dX8_join_81 ?_
            obtain ⟨hi9, hf⟩ := gi_e hf
            refine va_iald hx hb hK hP 1 0 rfl rfl hi9 dX8_join_82 ?_
            refine lv_icmp_ne (tgt := 106) hx hb dX8_join_83 (by decide) (fun c10 => ?_) (fun c10 => ?_)
            · replace hf := it_f c10 hf
              exact b_X8_join_106 C G hA hR M _ _ _ (lv_sub hl [2] rfl) hP hD hS hf
            · replace hf := it_t c10 hf
              refine lv_aload_n hx hb dX8_join_86 rfl (lv_at hl 2 rfl) ?_
              refine va_get (D := (dC, dI)) (ci := 8) (v := .ref (a 1)) (C := RX8) (T := TX8) (N := 20) hx hb hts in_X8_join_X8 hown hK hP 0 rfl rfl 0 (by decide) (hts (.fieldLink RX8 7 "BackLoansModel" "now" "[I") (by decide +kernel)) (fun _ h9 => h9) rfl dX8_join_87 ?_
              refine lv_iload_n hx hb dX8_join_90 rfl (lv_at hl 1 rfl) ?_
              refine lv_iconst (v := 2) hx hb dX8_join_91 (by decide) ?_
              refine lv_iadd hx hb dX8_join_92 ?_
              obtain ⟨hi11, hf⟩ := gi_e hf
              refine va_iald hx hb hK hP 1 0 rfl rfl hi11 dX8_join_93 ?_
              refine lv_aload_n hx hb dX8_join_94 rfl (lv_at hl 2 rfl) ?_
              refine va_get (D := (dC, dI)) (ci := 8) (v := .ref (a 1)) (C := RX8) (T := TX8) (N := 20) hx hb hts in_X8_join_X8 hown hK hP 0 rfl rfl 0 (by decide) (hts (.fieldLink RX8 7 "BackLoansModel" "now" "[I") (by decide +kernel)) (fun _ h9 => h9) rfl dX8_join_95 ?_
              refine lv_iload hx hb dX8_join_98 (lv_at hl 0 rfl) ?_
              refine lv_iconst (v := 2) hx hb dX8_join_100 (by decide) ?_
              refine lv_iadd hx hb dX8_join_101 ?_
              obtain ⟨hi12, hf⟩ := gi_e hf
              refine va_iald hx hb hK hP 1 0 rfl rfl hi12 dX8_join_102 ?_
              refine lv_icmp_eq (tgt := 111) hx hb dX8_join_103 (by decide) (fun c13 => ?_) (fun c13 => ?_)
              · replace hf := it_t c13 hf
                refine lv_aload_n hx hb dX8_join_111 rfl (lv_at hl 2 rfl) ?_
                obtain ⟨r112, hr112, hf⟩ := bn_e hf
                have hPc := hP.sub (ws' := (wM cs a M)) [0, 1, 2, 3, 4, 5, 6, 7, 8, 9, 10, 11] rfl
                have hDc := hD.sub (ws' := (wM cs a M)) [0, 1, 2, 3, 4, 5, 6, 7, 8, 9, 10, 11] (by decide) rfl
                have hFc := va_free (wc := (wM cs a M)) hD hS hA [0, 1, 2, 3, 4, 5, 6, 7, 8, 9, 10, 11] rfl
                refine va_callv (va_runV (As := []) (rest := []) C (c_X8_knows l dC dI cs a s.heap.size M r112 hr112) (cwV 0 hts gX8_join_X8_knows rfl rfl rfl (by decide +kernel) ⟨Nat.le_of_ble_eq_true rfl, Nat.le_of_ble_eq_true rfl⟩) ⟨(fun a U g mk q => ⟨q.1, q.2.1, q.2.2.1, GE.calling q.2.2.2.1, q.2.2.2.2⟩), va_recv hK hPc (ci := 8) (q0 := 0) rfl rfl, (fun U hU hW => ⟨rfl, by rw [hU], by rw [hU]; exact hPc, GE.warm hW G, hDc.weaken (fun _ _ _ _ => trivial)⟩)⟩ rfl rfl hl.1 rfl (lv_room (Nat.le_of_ble_eq_true rfl)) dX8_join_112 ⟨Nat.le_of_ble_eq_true rfl, Nat.le_of_ble_eq_true rfl⟩) hS (fun q _ h => hFc q h) hFc (fun u t H1 locs ht hvm hw hB hz1 hk1 hS => ?_)
                obtain rfl := hw.symm
                obtain ⟨hP1, hD1⟩ := hB
                rw [ht] at hP1
                obtain ⟨hP, hD⟩ := va_join (wr := []) (w1 := (wM cs a r112)) hP hD [0, 1, 2, 3, 4, 5, 6, 7, 8, 9, 10, 11] [] rfl rfl (by decide) (by decide) hk1 hFc hP1 hD1
                generalize H1 = H at hP hS ⊢
                have hP := hP.sub (ws' := (wM cs a r112)) [0, 1, 2, 3, 4, 5, 6, 7, 8, 9, 10, 11] rfl
                have hD := hD.sub (ws' := (wM cs a r112)) [0, 1, 2, 3, 4, 5, 6, 7, 8, 9, 10, 11] (by decide) rfl
                refine lv_aload_n hx hb dX8_join_115 rfl (lv_at hl 2 rfl) ?_
                refine va_get (D := (dC, dI)) (ci := 8) (v := .ref (a 1)) (C := RX8) (T := TX8) (N := 20) hx hb hts in_X8_join_X8 hown hK hP 0 rfl rfl 0 (by decide) (hts (.fieldLink RX8 7 "BackLoansModel" "now" "[I") (by decide +kernel)) (fun _ h9 => h9) rfl dX8_join_116 ?_
                refine lv_iload_n hx hb dX8_join_119 rfl (lv_at hl 1 rfl) ?_
                refine lv_iconst (v := 4) hx hb dX8_join_120 (by decide) ?_
                refine lv_iadd hx hb dX8_join_121 ?_
                refine lv_aload_n hx hb dX8_join_122 rfl (lv_at hl 2 rfl) ?_
                refine va_get (D := (dC, dI)) (ci := 8) (v := .ref (a 1)) (C := RX8) (T := TX8) (N := 20) hx hb hts in_X8_join_X8 hown hK hP 0 rfl rfl 0 (by decide) (hts (.fieldLink RX8 7 "BackLoansModel" "now" "[I") (by decide +kernel)) (fun _ h9 => h9) rfl dX8_join_123 ?_
                refine lv_iload_n hx hb dX8_join_126 rfl (lv_at hl 1 rfl) ?_
                refine lv_iconst (v := 2) hx hb dX8_join_127 (by decide) ?_
                refine lv_iadd hx hb dX8_join_128 ?_
                obtain ⟨hi14, hf⟩ := gi_e hf
                refine va_iald hx hb hK hP 1 0 rfl rfl hi14 dX8_join_129 ?_
                refine lv_aload_n hx hb dX8_join_130 rfl (lv_at hl 2 rfl) ?_
                refine va_get (D := (dC, dI)) (ci := 8) (v := .ref (a 1)) (C := RX8) (T := TX8) (N := 20) hx hb hts in_X8_join_X8 hown hK hP 0 rfl rfl 0 (by decide) (hts (.fieldLink RX8 7 "BackLoansModel" "now" "[I") (by decide +kernel)) (fun _ h9 => h9) rfl dX8_join_131 ?_
                refine lv_iload_n hx hb dX8_join_134 rfl (lv_at hl 1 rfl) ?_
                refine lv_iconst (v := 4) hx hb dX8_join_135 (by decide) ?_
                refine lv_iadd hx hb dX8_join_136 ?_
                obtain ⟨hi15, hf⟩ := gi_e hf
                refine va_iald hx hb hK hP 1 0 rfl rfl hi15 dX8_join_137 ?_
                refine lv_aload_n hx hb dX8_join_138 rfl (lv_at hl 2 rfl) ?_
                refine va_get (D := (dC, dI)) (ci := 8) (v := .ref (a 1)) (C := RX8) (T := TX8) (N := 20) hx hb hts in_X8_join_X8 hown hK hP 0 rfl rfl 0 (by decide) (hts (.fieldLink RX8 7 "BackLoansModel" "now" "[I") (by decide +kernel)) (fun _ h9 => h9) rfl dX8_join_139 ?_
                refine lv_iload hx hb dX8_join_142 (lv_at hl 0 rfl) ?_
                refine lv_iconst (v := 4) hx hb dX8_join_144 (by decide) ?_
                refine lv_iadd hx hb dX8_join_145 ?_
                obtain ⟨hi16, hf⟩ := gi_e hf
                refine va_iald hx hb hK hP 1 0 rfl rfl hi16 dX8_join_146 ?_
                refine lv_iadd hx hb dX8_join_147 ?_
                obtain ⟨r148, hr148, hf⟩ := bn_e hf
                have hPc := hP.sub (ws' := ([] : va_W)) [] rfl
                refine vp_callSi (W.runS (As := [.int (((r112.2.2 0) ((x3_32 + (2 : Int32))).toNatClampNeg)), .int ((((r112.2.2 0) ((x3_32 + (4 : Int32))).toNatClampNeg) + ((r112.2.2 0) ((x4_39 + (4 : Int32))).toNatClampNeg)))]) (rest := [.int ((x3_32 + (4 : Int32))), .ref (a 1)]) C (c_X8_least l dC dI cs ((r112.2.2 0) ((x3_32 + (2 : Int32))).toNatClampNeg) (((r112.2.2 0) ((x3_32 + (4 : Int32))).toNatClampNeg) + ((r112.2.2 0) ((x4_39 + (4 : Int32))).toNatClampNeg)) r148 hr148) (va_cwS 2 hts gX8_join_X8_least rfl rfl rfl (by decide +kernel) ⟨Nat.le_of_ble_eq_true rfl, Nat.le_of_ble_eq_true rfl⟩) ⟨(fun a U g mk q => ⟨q.1, q.2.1, GE.calling q.2.2⟩), (fun U hU hW => ⟨rfl, by rw [hU]; exact hPc, GE.warm hW G⟩)⟩ rfl rfl hl.1 rfl (lv_room (Nat.le_of_ble_eq_true rfl)) dX8_join_148 ⟨Nat.le_of_ble_eq_true rfl, Nat.le_of_ble_eq_true rfl⟩) (fun qr148 hqr148 => ?_)
                obtain rfl := hqr148.symm
                obtain ⟨hi17, hf⟩ := gi_e hf
                refine va_iast hx hb hK hP hD hS 1 0 rfl rfl hi17 dX8_join_151 (fun H locs hP hD hS => ?_)
                obtain ⟨M_151, hP, hD, hf⟩ := st_nm (ws := fun M_151 : Ms => (wM cs a M_151)) ((r112.1, r112.2.1, va_up r112.2.2 0 (upd (r112.2.2 0) ((x3_32 + (4 : Int32))).toNatClampNeg (r148)))) hP hD hf
                refine lv_aload_n hx hb dX8_join_152 rfl (lv_at hl 2 rfl) ?_
                refine va_get (D := (dC, dI)) (ci := 8) (v := .ref (a 1)) (C := RX8) (T := TX8) (N := 20) hx hb hts in_X8_join_X8 hown hK hP 0 rfl rfl 0 (by decide) (hts (.fieldLink RX8 7 "BackLoansModel" "now" "[I") (by decide +kernel)) (fun _ h9 => h9) rfl dX8_join_153 ?_
                refine lv_iload_n hx hb dX8_join_156 rfl (lv_at hl 1 rfl) ?_
                refine lv_iconst (v := 3) hx hb dX8_join_157 (by decide) ?_
                refine lv_iadd hx hb dX8_join_158 ?_
                refine lv_aload_n hx hb dX8_join_159 rfl (lv_at hl 2 rfl) ?_
                refine va_get (D := (dC, dI)) (ci := 8) (v := .ref (a 1)) (C := RX8) (T := TX8) (N := 20) hx hb hts in_X8_join_X8 hown hK hP 0 rfl rfl 0 (by decide) (hts (.fieldLink RX8 7 "BackLoansModel" "now" "[I") (by decide +kernel)) (fun _ h9 => h9) rfl dX8_join_160 ?_
                refine lv_iload_n hx hb dX8_join_163 rfl (lv_at hl 1 rfl) ?_
                refine lv_iconst (v := 4) hx hb dX8_join_164 (by decide) ?_
                refine lv_iadd hx hb dX8_join_165 ?_
                obtain ⟨hi18, hf⟩ := gi_e hf
                refine va_iald hx hb hK hP 1 0 rfl rfl hi18 dX8_join_166 ?_
                refine lv_aload_n hx hb dX8_join_167 rfl (lv_at hl 2 rfl) ?_
                refine va_get (D := (dC, dI)) (ci := 8) (v := .ref (a 1)) (C := RX8) (T := TX8) (N := 20) hx hb hts in_X8_join_X8 hown hK hP 0 rfl rfl 0 (by decide) (hts (.fieldLink RX8 7 "BackLoansModel" "now" "[I") (by decide +kernel)) (fun _ h9 => h9) rfl dX8_join_168 ?_
                refine lv_iload_n hx hb dX8_join_171 rfl (lv_at hl 1 rfl) ?_
                refine lv_iconst (v := 2) hx hb dX8_join_172 (by decide) ?_
                refine lv_iadd hx hb dX8_join_173 ?_
                obtain ⟨hi19, hf⟩ := gi_e hf
                refine va_iald hx hb hK hP 1 0 rfl rfl hi19 dX8_join_174 ?_
                refine lv_icmp_ne (tgt := 182) hx hb dX8_join_175 (by decide) (fun c20 => ?_) (fun c20 => ?_)
                · replace hf := it_f c20 hf
                  refine lv_iconst (v := 2) hx hb dX8_join_182 (by decide) ?_
                  exact b_X8_join_183 C G hA hR x3_32 x4_39 (x3_32 + (3 : Int32)) (2 : Int32) M_151 _ _ _ (lv_sub hl [2, 1, 0] rfl) hP hD hS hf
                · replace hf := it_t c20 hf
                  refine lv_iconst (v := 3) hx hb dX8_join_178 (by decide) ?_
                  refine lv_goto (tgt := 183) hx hb dX8_join_179 (by decide) ?_
                  exact b_X8_join_183 C G hA hR x3_32 x4_39 (x3_32 + (3 : Int32)) (3 : Int32) M_151 _ _ _ (lv_sub hl [2, 1, 0] rfl) hP hD hS hf
              · replace hf := it_f c13 hf
                exact b_X8_join_106 C G hA hR M _ _ _ (lv_sub hl [2] rfl) hP hD hS hf
      · replace hf := it_t c3 hf
        exact b_X8_join_21 C G hA hR M _ _ _ (lv_sub hl [0] rfl) hP hD hS hf

theorem in_X8_sell_X8 : ∀ w ∈ wsX80, w ∈ wsX8_sell := by decide +kernel
def f_X8_sell_42 (M : Ms)  : Option (Int32 × Ms) :=
  bn (f_X8_bad M) fun r43 =>
  some (r43.1, r43.2)
set_option maxHeartbeats 4000000 in
set_option maxRecDepth 100000 in
theorem b_X8_sell_42 {p : Program} {l : Launch} {e : Env} {s : State} {m : MethodId} {args : Array Value} {below : List Frame} {meth : Method} {c : Code} {Q : State → Prop} {dC : Nat → ClassId} {dI : Nat → Nat → Nat} {cs : Nat → ClassId} {A : Nat → Prop} {a : Nat → Nat} {res : Int32 × Ms} (C : CallFix p m c cX8_sell 6 s args wsX8_sell RX8) (G : GE dC dI cs s) (hA : ∀ q : Nat, s.heap.size ≤ q → A q) (hR : RTi p l e ({ frames := 2, cells := 0, slots := 0, locals := 43 }) s m args below meth c cX8_sell Q (dC, dI) A (fun u : Ms => (wM cs a u)) res) (M : Ms)   (H : Heap) (locs : List Loc) (ls : Array Slot) (hl : lv_has ls 6 [(0, .ref (a 0))]) (hP : va_P (dC, dI) vwCl (wM cs a M) H) (hD : va_D A (wM cs a M)) (hS : va_S A s.heap H locs) (hf : f_X8_sell_42 M = some res) : W p l e ({ frames := 2, cells := 0, slots := 0, locals := 43 }) s m args below meth c H locs 0 0 Q (F0 m 42 ls []) := by
  obtain ⟨hx, hb, hml, hown, hts⟩ := id C
  obtain ⟨hK, hN⟩ := id G
  unfold f_X8_sell_42 at hf
  refine lv_aload_n hx hb dX8_sell_42 rfl (lv_at hl 0 rfl) ?_
  obtain ⟨r43, hr43, hf⟩ := bn_e hf
  have hPc := hP.sub (ws' := (wM cs a M)) [0, 1, 2, 3, 4, 5, 6, 7, 8, 9, 10, 11] rfl
  have hDc := hD.sub (ws' := (wM cs a M)) [0, 1, 2, 3, 4, 5, 6, 7, 8, 9, 10, 11] (by decide) rfl
  have hFc := va_free (wc := (wM cs a M)) hD hS hA [0, 1, 2, 3, 4, 5, 6, 7, 8, 9, 10, 11] rfl
  refine va_calli (va_runV (As := []) (rest := []) C (c_X8_bad l dC dI cs a H.size M r43 hr43) (cwV 0 hts gX8_sell_X8_bad rfl rfl rfl (by decide +kernel) ⟨Nat.le_of_ble_eq_true rfl, Nat.le_of_ble_eq_true rfl⟩) ⟨(fun a U g mk q => ⟨q.1, q.2.1, q.2.2.1, GE.calling q.2.2.2.1, q.2.2.2.2⟩), va_recv hK hPc (ci := 8) (q0 := 0) rfl rfl, (fun U hU hW => ⟨rfl, by rw [hU], by rw [hU]; exact hPc, GE.warm hW G, hDc.weaken (fun _ _ _ _ => trivial)⟩)⟩ rfl rfl hl.1 rfl (lv_room (Nat.le_of_ble_eq_true rfl)) dX8_sell_43 ⟨Nat.le_of_ble_eq_true rfl, Nat.le_of_ble_eq_true rfl⟩) hS (fun q _ h => hFc q h) hFc (fun q u t H1 locs ht hvm hw hB hz1 hk1 hS => ?_)
  obtain ⟨rfl, rfl⟩ := hw
  obtain ⟨hP1, hD1⟩ := hB
  rw [ht] at hP1
  obtain ⟨hP, hD⟩ := va_join (wr := []) (w1 := (wM cs a r43.2)) hP hD [0, 1, 2, 3, 4, 5, 6, 7, 8, 9, 10, 11] [] rfl rfl (by decide) (by decide) hk1 hFc hP1 hD1
  generalize H1 = H at hP hS ⊢
  have hP := hP.sub (ws' := (wM cs a r43.2)) [0, 1, 2, 3, 4, 5, 6, 7, 8, 9, 10, 11] rfl
  have hD := hD.sub (ws' := (wM cs a r43.2)) [0, 1, 2, 3, 4, 5, 6, 7, 8, 9, 10, 11] (by decide) rfl
  exact hR _ _ _ _ _ _ dX8_sell_46 hf hP hD hS
def f_X8_sell_97 (M : Ms)  : Option (Int32 × Ms) :=
  bn (f_X8_no M) fun r98 =>
  some (r98.1, r98.2)
set_option maxHeartbeats 4000000 in
set_option maxRecDepth 100000 in
theorem b_X8_sell_97 {p : Program} {l : Launch} {e : Env} {s : State} {m : MethodId} {args : Array Value} {below : List Frame} {meth : Method} {c : Code} {Q : State → Prop} {dC : Nat → ClassId} {dI : Nat → Nat → Nat} {cs : Nat → ClassId} {A : Nat → Prop} {a : Nat → Nat} {res : Int32 × Ms} (C : CallFix p m c cX8_sell 6 s args wsX8_sell RX8) (G : GE dC dI cs s) (hA : ∀ q : Nat, s.heap.size ≤ q → A q) (hR : RTi p l e ({ frames := 2, cells := 0, slots := 0, locals := 43 }) s m args below meth c cX8_sell Q (dC, dI) A (fun u : Ms => (wM cs a u)) res) (M : Ms)   (H : Heap) (locs : List Loc) (ls : Array Slot) (hl : lv_has ls 6 [(0, .ref (a 0))]) (hP : va_P (dC, dI) vwCl (wM cs a M) H) (hD : va_D A (wM cs a M)) (hS : va_S A s.heap H locs) (hf : f_X8_sell_97 M = some res) : W p l e ({ frames := 2, cells := 0, slots := 0, locals := 43 }) s m args below meth c H locs 0 0 Q (F0 m 97 ls []) := by
  obtain ⟨hx, hb, hml, hown, hts⟩ := id C
  obtain ⟨hK, hN⟩ := id G
  unfold f_X8_sell_97 at hf
  refine lv_aload_n hx hb dX8_sell_97 rfl (lv_at hl 0 rfl) ?_
  obtain ⟨r98, hr98, hf⟩ := bn_e hf
  have hPc := hP.sub (ws' := (wM cs a M)) [0, 1, 2, 3, 4, 5, 6, 7, 8, 9, 10, 11] rfl
  have hDc := hD.sub (ws' := (wM cs a M)) [0, 1, 2, 3, 4, 5, 6, 7, 8, 9, 10, 11] (by decide) rfl
  have hFc := va_free (wc := (wM cs a M)) hD hS hA [0, 1, 2, 3, 4, 5, 6, 7, 8, 9, 10, 11] rfl
  refine va_calli (va_runV (As := []) (rest := []) C (c_X8_no l dC dI cs a H.size M r98 hr98) (cwV 0 hts gX8_sell_X8_no rfl rfl rfl (by decide +kernel) ⟨Nat.le_of_ble_eq_true rfl, Nat.le_of_ble_eq_true rfl⟩) ⟨(fun a U g mk q => ⟨q.1, q.2.1, q.2.2.1, GE.calling q.2.2.2.1, q.2.2.2.2⟩), va_recv hK hPc (ci := 8) (q0 := 0) rfl rfl, (fun U hU hW => ⟨rfl, by rw [hU], by rw [hU]; exact hPc, GE.warm hW G, hDc.weaken (fun _ _ _ _ => trivial)⟩)⟩ rfl rfl hl.1 rfl (lv_room (Nat.le_of_ble_eq_true rfl)) dX8_sell_98 ⟨Nat.le_of_ble_eq_true rfl, Nat.le_of_ble_eq_true rfl⟩) hS (fun q _ h => hFc q h) hFc (fun q u t H1 locs ht hvm hw hB hz1 hk1 hS => ?_)
  obtain ⟨rfl, rfl⟩ := hw
  obtain ⟨hP1, hD1⟩ := hB
  rw [ht] at hP1
  obtain ⟨hP, hD⟩ := va_join (wr := []) (w1 := (wM cs a r98.2)) hP hD [0, 1, 2, 3, 4, 5, 6, 7, 8, 9, 10, 11] [] rfl rfl (by decide) (by decide) hk1 hFc hP1 hD1
  generalize H1 = H at hP hS ⊢
  have hP := hP.sub (ws' := (wM cs a r98.2)) [0, 1, 2, 3, 4, 5, 6, 7, 8, 9, 10, 11] rfl
  have hD := hD.sub (ws' := (wM cs a r98.2)) [0, 1, 2, 3, 4, 5, 6, 7, 8, 9, 10, 11] (by decide) rfl
  exact hR _ _ _ _ _ _ dX8_sell_101 hf hP hD hS
def f_X8_sell_80 (x2 : Int32) (x3 : Int32) (x4 : Int32) (M : Ms)  : Option (Int32 × Ms) :=
  gi ((((8 : Int32) + ((3 : Int32) * x2)) + (2 : Int32))) 362 <|
  if x3 ≤ ((M.2.2 0) ((((8 : Int32) + ((3 : Int32) * x2)) + (2 : Int32))).toNatClampNeg) then (
    bn (f_X8_knows M) fun r103 =>
    gi (x4) 362 <|
    lett ((r103.2.2 0) (x4).toNatClampNeg) fun x5_113 =>
    gi ((((8 : Int32) + ((3 : Int32) * x2)) + (2 : Int32))) 362 <|
    gi ((((8 : Int32) + ((3 : Int32) * x2)) + (2 : Int32))) 362 <|
    lett ((r103.1, r103.2.1, va_up r103.2.2 0 (upd (r103.2.2 0) ((((8 : Int32) + ((3 : Int32) * x2)) + (2 : Int32))).toNatClampNeg ((((r103.2.2 0) ((((8 : Int32) + ((3 : Int32) * x2)) + (2 : Int32))).toNatClampNeg) - x3))))) fun M_131 =>
    gi ((((8 : Int32) + ((3 : Int32) * x5_113)) + (2 : Int32))) 362 <|
    bn (f_X8_least (9999 : Int32) (((M_131.2.2 0) ((((8 : Int32) + ((3 : Int32) * x5_113)) + (2 : Int32))).toNatClampNeg) + x3)) fun r164 =>
    gi ((((8 : Int32) + ((3 : Int32) * x5_113)) + (2 : Int32))) 362 <|
    lett ((M_131.1, M_131.2.1, va_up M_131.2.2 0 (upd (M_131.2.2 0) ((((8 : Int32) + ((3 : Int32) * x5_113)) + (2 : Int32))).toNatClampNeg (r164)))) fun M_167 =>
    gi (x4) 362 <|
    lett ((M_167.1, M_167.2.1, va_up M_167.2.2 0 (upd (M_167.2.2 0) (x4).toNatClampNeg (x2)))) fun M_175 =>
    some (x5_113, M_175)
  ) else (
    f_X8_sell_97 M
  )
set_option maxHeartbeats 4000000 in
set_option maxRecDepth 100000 in
theorem b_X8_sell_80 {p : Program} {l : Launch} {e : Env} {s : State} {m : MethodId} {args : Array Value} {below : List Frame} {meth : Method} {c : Code} {Q : State → Prop} {dC : Nat → ClassId} {dI : Nat → Nat → Nat} {cs : Nat → ClassId} {A : Nat → Prop} {a : Nat → Nat} {res : Int32 × Ms} (C : CallFix p m c cX8_sell 6 s args wsX8_sell RX8) (G : GE dC dI cs s) (hA : ∀ q : Nat, s.heap.size ≤ q → A q) (hR : RTi p l e ({ frames := 2, cells := 0, slots := 0, locals := 43 }) s m args below meth c cX8_sell Q (dC, dI) A (fun u : Ms => (wM cs a u)) res) (x2 : Int32) (x3 : Int32) (x4 : Int32) (M : Ms)   (H : Heap) (locs : List Loc) (ls : Array Slot) (hl : lv_has ls 6 [(0, .ref (a 0)), (2, .int (x2)), (3, .int (x3)), (4, .int (x4))]) (hP : va_P (dC, dI) vwCl (wM cs a M) H) (hD : va_D A (wM cs a M)) (hS : va_S A s.heap H locs) (hf : f_X8_sell_80 x2 x3 x4 M = some res) : W p l e ({ frames := 2, cells := 0, slots := 0, locals := 43 }) s m args below meth c H locs 0 0 Q (F0 m 80 ls []) := by
  obtain ⟨hx, hb, hml, hown, hts⟩ := id C
  obtain ⟨hK, hN⟩ := id G
  unfold f_X8_sell_80 at hf
  refine lv_aload_n hx hb dX8_sell_80 rfl (lv_at hl 0 rfl) ?_
  refine va_get (D := (dC, dI)) (ci := 8) (v := .ref (a 1)) (C := RX8) (T := TX8) (N := 20) hx hb hts in_X8_sell_X8 hown hK hP 0 rfl rfl 0 (by decide) (hts (.fieldLink RX8 7 "BackLoansModel" "now" "[I") (by decide +kernel)) (fun _ h9 => h9) rfl dX8_sell_81 ?_
  refine lv_bipush (v := 8) hx hb dX8_sell_84 (by decide) ?_
  refine lv_iconst (v := 3) hx hb dX8_sell_86 (by decide) ?_
  refine lv_iload_n hx hb dX8_sell_87 rfl (lv_at hl 1 rfl) ?_
  refine lv_imul hx hb dX8_sell_88 ?_
  refine lv_iadd hx hb dX8_sell_89 ?_
  refine lv_iconst (v := 2) hx hb dX8_sell_90 (by decide) ?_
  refine lv_iadd hx hb dX8_sell_91 ?_
  obtain ⟨hi1, hf⟩ := gi_e hf
  refine va_iald hx hb hK hP 1 0 rfl rfl hi1 dX8_sell_92 ?_
  refine lv_iload_n hx hb dX8_sell_93 rfl (lv_at hl 2 rfl) ?_
  refine lv_icmp_ge (tgt := 102) hx hb dX8_sell_94 (by decide) (fun c2 => ?_) (fun c2 => ?_)
  · replace hf := it_t c2 hf
    refine lv_aload_n hx hb dX8_sell_102 rfl (lv_at hl 0 rfl) ?_
    obtain ⟨r103, hr103, hf⟩ := bn_e hf
    have hPc := hP.sub (ws' := (wM cs a M)) [0, 1, 2, 3, 4, 5, 6, 7, 8, 9, 10, 11] rfl
    have hDc := hD.sub (ws' := (wM cs a M)) [0, 1, 2, 3, 4, 5, 6, 7, 8, 9, 10, 11] (by decide) rfl
    have hFc := va_free (wc := (wM cs a M)) hD hS hA [0, 1, 2, 3, 4, 5, 6, 7, 8, 9, 10, 11] rfl
    refine va_callv (va_runV (As := []) (rest := []) C (c_X8_knows l dC dI cs a H.size M r103 hr103) (cwV 0 hts gX8_sell_X8_knows rfl rfl rfl (by decide +kernel) ⟨Nat.le_of_ble_eq_true rfl, Nat.le_of_ble_eq_true rfl⟩) ⟨(fun a U g mk q => ⟨q.1, q.2.1, q.2.2.1, GE.calling q.2.2.2.1, q.2.2.2.2⟩), va_recv hK hPc (ci := 8) (q0 := 0) rfl rfl, (fun U hU hW => ⟨rfl, by rw [hU], by rw [hU]; exact hPc, GE.warm hW G, hDc.weaken (fun _ _ _ _ => trivial)⟩)⟩ rfl rfl hl.1 rfl (lv_room (Nat.le_of_ble_eq_true rfl)) dX8_sell_103 ⟨Nat.le_of_ble_eq_true rfl, Nat.le_of_ble_eq_true rfl⟩) hS (fun q _ h => hFc q h) hFc (fun u t H1 locs ht hvm hw hB hz1 hk1 hS => ?_)
    obtain rfl := hw.symm
    obtain ⟨hP1, hD1⟩ := hB
    rw [ht] at hP1
    obtain ⟨hP, hD⟩ := va_join (wr := []) (w1 := (wM cs a r103)) hP hD [0, 1, 2, 3, 4, 5, 6, 7, 8, 9, 10, 11] [] rfl rfl (by decide) (by decide) hk1 hFc hP1 hD1
    generalize H1 = H at hP hS ⊢
    have hP := hP.sub (ws' := (wM cs a r103)) [0, 1, 2, 3, 4, 5, 6, 7, 8, 9, 10, 11] rfl
    have hD := hD.sub (ws' := (wM cs a r103)) [0, 1, 2, 3, 4, 5, 6, 7, 8, 9, 10, 11] (by decide) rfl
    refine lv_aload_n hx hb dX8_sell_106 rfl (lv_at hl 0 rfl) ?_
    refine va_get (D := (dC, dI)) (ci := 8) (v := .ref (a 1)) (C := RX8) (T := TX8) (N := 20) hx hb hts in_X8_sell_X8 hown hK hP 0 rfl rfl 0 (by decide) (hts (.fieldLink RX8 7 "BackLoansModel" "now" "[I") (by decide +kernel)) (fun _ h9 => h9) rfl dX8_sell_107 ?_
    refine lv_iload hx hb dX8_sell_110 (lv_at hl 3 rfl) ?_
    obtain ⟨hi3, hf⟩ := gi_e hf
    refine va_iald hx hb hK hP 1 0 rfl rfl hi3 dX8_sell_112 ?_
    refine lv_topi (fun x5_113 ex5_113 => ?_)
    replace hf := lett_s ex5_113 hf
    refine lv_istore (lv' := [(5, .int (x5_113)), (0, .ref (a 0)), (2, .int (x2)), (3, .int (x3)), (4, .int (x4))]) hx hb dX8_sell_113 hl (by decide) rfl (fun ls hl => ?_)
    refine lv_aload_n hx hb dX8_sell_115 rfl (lv_at hl 1 rfl) ?_
    refine va_get (D := (dC, dI)) (ci := 8) (v := .ref (a 1)) (C := RX8) (T := TX8) (N := 20) hx hb hts in_X8_sell_X8 hown hK hP 0 rfl rfl 0 (by decide) (hts (.fieldLink RX8 7 "BackLoansModel" "now" "[I") (by decide +kernel)) (fun _ h9 => h9) rfl dX8_sell_116 ?_
    refine lv_bipush (v := 8) hx hb dX8_sell_119 (by decide) ?_
    refine lv_iconst (v := 3) hx hb dX8_sell_121 (by decide) ?_
    refine lv_iload_n hx hb dX8_sell_122 rfl (lv_at hl 2 rfl) ?_
    refine lv_imul hx hb dX8_sell_123 ?_
    refine lv_iadd hx hb dX8_sell_124 ?_
    refine lv_iconst (v := 2) hx hb dX8_sell_125 (by decide) ?_
    refine lv_iadd hx hb dX8_sell_126 ?_
    refine lv_dup2_11 hx hb dX8_sell_127 rfl rfl ?_
    obtain ⟨hi4, hf⟩ := gi_e hf
    refine va_iald hx hb hK hP 1 0 rfl rfl hi4 dX8_sell_128 ?_
    refine lv_iload_n hx hb dX8_sell_129 rfl (lv_at hl 3 rfl) ?_
    refine lv_isub hx hb dX8_sell_130 ?_
    obtain ⟨hi5, hf⟩ := gi_e hf
    refine va_iast hx hb hK hP hD hS 1 0 rfl rfl hi5 dX8_sell_131 (fun H locs hP hD hS => ?_)
    obtain ⟨M_131, hP, hD, hf⟩ := st_nm (ws := fun M_131 : Ms => (wM cs a M_131)) ((r103.1, r103.2.1, va_up r103.2.2 0 (upd (r103.2.2 0) ((((8 : Int32) + ((3 : Int32) * x2)) + (2 : Int32))).toNatClampNeg ((((r103.2.2 0) ((((8 : Int32) + ((3 : Int32) * x2)) + (2 : Int32))).toNatClampNeg) - x3))))) hP hD hf
    refine lv_aload_n hx hb dX8_sell_132 rfl (lv_at hl 1 rfl) ?_
    refine va_get (D := (dC, dI)) (ci := 8) (v := .ref (a 1)) (C := RX8) (T := TX8) (N := 20) hx hb hts in_X8_sell_X8 hown hK hP 0 rfl rfl 0 (by decide) (hts (.fieldLink RX8 7 "BackLoansModel" "now" "[I") (by decide +kernel)) (fun _ h9 => h9) rfl dX8_sell_133 ?_
    refine lv_bipush (v := 8) hx hb dX8_sell_136 (by decide) ?_
    refine lv_iconst (v := 3) hx hb dX8_sell_138 (by decide) ?_
    refine lv_iload hx hb dX8_sell_139 (lv_at hl 0 rfl) ?_
    refine lv_imul hx hb dX8_sell_141 ?_
    refine lv_iadd hx hb dX8_sell_142 ?_
    refine lv_iconst (v := 2) hx hb dX8_sell_143 (by decide) ?_
    refine lv_iadd hx hb dX8_sell_144 ?_
    refine lv_sipush (v := 9999) hx hb dX8_sell_145 (by decide) ?_
    refine lv_aload_n hx hb dX8_sell_148 rfl (lv_at hl 1 rfl) ?_
    refine va_get (D := (dC, dI)) (ci := 8) (v := .ref (a 1)) (C := RX8) (T := TX8) (N := 20) hx hb hts in_X8_sell_X8 hown hK hP 0 rfl rfl 0 (by decide) (hts (.fieldLink RX8 7 "BackLoansModel" "now" "[I") (by decide +kernel)) (fun _ h9 => h9) rfl dX8_sell_149 ?_
    refine lv_bipush (v := 8) hx hb dX8_sell_152 (by decide) ?_
    refine lv_iconst (v := 3) hx hb dX8_sell_154 (by decide) ?_
    refine lv_iload hx hb dX8_sell_155 (lv_at hl 0 rfl) ?_
    refine lv_imul hx hb dX8_sell_157 ?_
    refine lv_iadd hx hb dX8_sell_158 ?_
    refine lv_iconst (v := 2) hx hb dX8_sell_159 (by decide) ?_
    refine lv_iadd hx hb dX8_sell_160 ?_
    obtain ⟨hi6, hf⟩ := gi_e hf
    refine va_iald hx hb hK hP 1 0 rfl rfl hi6 dX8_sell_161 ?_
    refine lv_iload_n hx hb dX8_sell_162 rfl (lv_at hl 3 rfl) ?_
    refine lv_iadd hx hb dX8_sell_163 ?_
    obtain ⟨r164, hr164, hf⟩ := bn_e hf
    have hPc := hP.sub (ws' := ([] : va_W)) [] rfl
    refine vp_callSi (W.runS (As := [.int ((9999 : Int32)), .int ((((M_131.2.2 0) ((((8 : Int32) + ((3 : Int32) * x5_113)) + (2 : Int32))).toNatClampNeg) + x3))]) (rest := [.int ((((8 : Int32) + ((3 : Int32) * x5_113)) + (2 : Int32))), .ref (a 1)]) C (c_X8_least l dC dI cs (9999 : Int32) (((M_131.2.2 0) ((((8 : Int32) + ((3 : Int32) * x5_113)) + (2 : Int32))).toNatClampNeg) + x3) r164 hr164) (va_cwS 2 hts gX8_sell_X8_least rfl rfl rfl (by decide +kernel) ⟨Nat.le_of_ble_eq_true rfl, Nat.le_of_ble_eq_true rfl⟩) ⟨(fun a U g mk q => ⟨q.1, q.2.1, GE.calling q.2.2⟩), (fun U hU hW => ⟨rfl, by rw [hU]; exact hPc, GE.warm hW G⟩)⟩ rfl rfl hl.1 rfl (lv_room (Nat.le_of_ble_eq_true rfl)) dX8_sell_164 ⟨Nat.le_of_ble_eq_true rfl, Nat.le_of_ble_eq_true rfl⟩) (fun qr164 hqr164 => ?_)
    obtain rfl := hqr164.symm
    obtain ⟨hi7, hf⟩ := gi_e hf
    refine va_iast hx hb hK hP hD hS 1 0 rfl rfl hi7 dX8_sell_167 (fun H locs hP hD hS => ?_)
    obtain ⟨M_167, hP, hD, hf⟩ := st_nm (ws := fun M_167 : Ms => (wM cs a M_167)) ((M_131.1, M_131.2.1, va_up M_131.2.2 0 (upd (M_131.2.2 0) ((((8 : Int32) + ((3 : Int32) * x5_113)) + (2 : Int32))).toNatClampNeg (r164)))) hP hD hf
    refine lv_aload_n hx hb dX8_sell_168 rfl (lv_at hl 1 rfl) ?_
    refine va_get (D := (dC, dI)) (ci := 8) (v := .ref (a 1)) (C := RX8) (T := TX8) (N := 20) hx hb hts in_X8_sell_X8 hown hK hP 0 rfl rfl 0 (by decide) (hts (.fieldLink RX8 7 "BackLoansModel" "now" "[I") (by decide +kernel)) (fun _ h9 => h9) rfl dX8_sell_169 ?_
    refine lv_iload hx hb dX8_sell_172 (lv_at hl 4 rfl) ?_
    refine lv_iload_n hx hb dX8_sell_174 rfl (lv_at hl 2 rfl) ?_
    obtain ⟨hi8, hf⟩ := gi_e hf
    refine va_iast hx hb hK hP hD hS 1 0 rfl rfl hi8 dX8_sell_175 (fun H locs hP hD hS => ?_)
    obtain ⟨M_175, hP, hD, hf⟩ := st_nm (ws := fun M_175 : Ms => (wM cs a M_175)) ((M_167.1, M_167.2.1, va_up M_167.2.2 0 (upd (M_167.2.2 0) (x4).toNatClampNeg (x2)))) hP hD hf
    refine lv_iload hx hb dX8_sell_176 (lv_at hl 0 rfl) ?_
    exact hR _ _ _ _ _ _ dX8_sell_178 hf hP hD hS
  · replace hf := it_f c2 hf
    exact b_X8_sell_97 C G hA hR M _ _ _ (lv_sub hl [0] rfl) hP hD hS hf
def f_X8_sell (x1 : Int32) (x2 : Int32) (x3 : Int32) (M : Ms) : Option (Int32 × Ms) :=
  bn (f_X8_isLoan x1 M) fun r2 =>
  if r2 = 0 then (
    f_X8_sell_42 M
  ) else (
    bn (f_X8_isPerson x2 M) fun r10 =>
    if r10 = 0 then (
      f_X8_sell_42 M
    ) else (
      bn (f_X8_in x3 (0 : Int32) (9999 : Int32)) fun r21 =>
      if r21 = 0 then (
        f_X8_sell_42 M
      ) else (
        gi (((26 : Int32) + ((5 : Int32) * x1))) 362 <|
        if ((M.2.2 0) (((26 : Int32) + ((5 : Int32) * x1))).toNatClampNeg) = x2 then (
          f_X8_sell_42 M
        ) else (
          lett ((26 : Int32) + ((5 : Int32) * x1)) fun x4_53 =>
          gi ((x4_53 + (3 : Int32))) 362 <|
          if ((M.2.2 0) ((x4_53 + (3 : Int32))).toNatClampNeg) = 0 then (
            f_X8_sell_80 x2 x3 x4_53 M
          ) else (
            gi ((x4_53 + (3 : Int32))) 362 <|
            if ((M.2.2 0) ((x4_53 + (3 : Int32))).toNatClampNeg) = (2 : Int32) then (
              f_X8_sell_80 x2 x3 x4_53 M
            ) else (
              f_X8_sell_97 M
            )
          )
        )
      )
    )
  )
set_option maxHeartbeats 4000000 in
set_option maxRecDepth 100000 in
theorem c_X8_sell (l : Launch) (dC : Nat → ClassId) (dI : Nat → Nat → Nat) (cs : Nat → ClassId) (a : Nat → Nat) (sz : Nat) (M : Ms) (x1 : Int32) (x2 : Int32) (x3 : Int32) (res : Int32 × Ms) (hf : f_X8_sell x1 x2 x3 M = some res) : Met l yX8_sell wsX8_sell ({ frames := 2, cells := 0, slots := 0, locals := 43 }) (va_Pc [.ref (a 0), .int (x1), .int (x2), .int (x3)] (fun U => U.heap.size = sz ∧ va_P (dC, dI) vwCl (wM cs a M) U.heap ∧ GE dC dI cs U ∧ va_D (fun _ => True) (wM cs a M))) (va_Qi (fun r (u : Ms) => r = res.1 ∧ u = res.2) (fun u t => va_P (dC, dI) vwCl ((fun u : Ms => (wM cs a u)) u) t.heap ∧ va_D (va_A (wM cs a M) sz) ((fun u : Ms => (wM cs a u)) u)) (va_A (wM cs a M) sz)) 0 0 (va_A (wM cs a M) sz) := by
  refine Met.ofW (cc := cX8_sell) (maxL := 6) (ret := (some .int)) (by decide) rfl ?_
  intro p e s m args below meth c s₁ Bd hml hv
  obtain ⟨rfl, hsz, hP, G, hD0⟩ := hv
  have hts := atoms_spec (ws := wsX8_sell) Bd.pre
  have hown : s.vm.findClass RX8 = some m.cls := findClass_of_methodNamed Bd.named
  have hlocks := Bd.notSynchronized
  have hx := Bd.exec
  have hb := Bd.bytes
  have hr := Bd.returns
  have C : CallFix p m c cX8_sell 6 s _ wsX8_sell RX8 := ⟨hx, hb, hml, hown, hts⟩
  obtain ⟨hK, hN⟩ := id G
  subst hsz
  have hD := hD0.self (sz := s.heap.size)
  generalize hAe : va_A (wM cs a M) s.heap.size = A at hD ⊢
  have hA : ∀ q : Nat, s.heap.size ≤ q → A q := fun q h => by rw [← hAe]; exact Or.inr h
  have hS : va_S A s.heap s.heap [] := va_S.rf
  have hR : RTi p l e ({ frames := 2, cells := 0, slots := 0, locals := 43 }) s m ([.ref (a 0), .int (x1), .int (x2), .int (x3)] : List Value).toArray below meth c cX8_sell (MQ below (va_Qi (fun r (u : Ms) => r = res.1 ∧ u = res.2) (fun u t => va_P (dC, dI) vwCl ((fun u : Ms => (wM cs a u)) u) t.heap ∧ va_D A ((fun u : Ms => (wM cs a u)) u)) A) ([.ref (a 0), .int (x1), .int (x2), .int (x3)] : List Value).toArray s 0 0 A) (dC, dI) A (fun u : Ms => (wM cs a u)) res := fun H locs pc ls r u dd h hP hD hS => W.iret hx hb hr (fun t ht hW => ⟨⟨r, u, rfl, by cases h; exact ⟨rfl, rfl⟩, by rw [ht]; exact hP, hD⟩, hS.F ht⟩) hS.2.2 dd
  have hl := lv_entry ([.ref (a 0), .int (x1), .int (x2), .int (x3)]) (n := 6) (Nat.le_of_ble_eq_true rfl)
  rw [lg_entry_eq]
  generalize (lg_sl ([.ref (a 0), .int (x1), .int (x2), .int (x3)]) ++ List.replicate (6 - (lg_sl ([.ref (a 0), .int (x1), .int (x2), .int (x3)])).length) Slot.unset).toArray = ls at hl ⊢
  have hl : lv_has ls 6 [(0, .ref (a 0)), (1, .int (x1)), (2, .int (x2)), (3, .int (x3))] := hl
  unfold f_X8_sell at hf
  refine lv_aload_n hx hb dX8_sell_0 rfl (lv_at hl 0 rfl) ?_
  refine lv_iload_n hx hb dX8_sell_1 rfl (lv_at hl 1 rfl) ?_
  obtain ⟨r2, hr2, hf⟩ := bn_e hf
  have hPc := hP.sub (ws' := (wM cs a M)) [0, 1, 2, 3, 4, 5, 6, 7, 8, 9, 10, 11] rfl
  refine vp_callSi (W.runV (As := [.int (x1)]) (rest := []) C (c_X8_isLoan l dC dI cs a M x1 r2 hr2) (cwV 1 hts gX8_sell_X8_isLoan rfl rfl rfl (by decide +kernel) ⟨Nat.le_of_ble_eq_true rfl, Nat.le_of_ble_eq_true rfl⟩) ⟨(fun a U g mk q => ⟨q.1, q.2.1, GE.calling q.2.2⟩), va_recv hK hPc (ci := 8) (q0 := 0) rfl rfl, (fun U hU hW => ⟨rfl, by rw [hU]; exact hPc, GE.warm hW G⟩)⟩ rfl rfl hl.1 rfl (lv_room (Nat.le_of_ble_eq_true rfl)) dX8_sell_2 ⟨Nat.le_of_ble_eq_true rfl, Nat.le_of_ble_eq_true rfl⟩) (fun qr2 hqr2 => ?_)
  obtain ⟨hqr2, hnr2⟩ := hqr2
  obtain rfl := hqr2.symm
  refine lv_if_eq (tgt := 42) hx hb dX8_sell_5 (by decide) (fun c1 => ?_) (fun c1 => ?_)
  · replace hf := it_t c1 hf
    exact b_X8_sell_42 C G hA hR M _ _ _ (lv_sub hl [0] rfl) hP hD hS hf
  · replace hf := it_f c1 hf
    refine lv_aload_n hx hb dX8_sell_8 rfl (lv_at hl 0 rfl) ?_
    refine lv_iload_n hx hb dX8_sell_9 rfl (lv_at hl 2 rfl) ?_
    obtain ⟨r10, hr10, hf⟩ := bn_e hf
    have hPc := hP.sub (ws' := (wM cs a M)) [0, 1, 2, 3, 4, 5, 6, 7, 8, 9, 10, 11] rfl
    refine vp_callSi (W.runV (As := [.int (x2)]) (rest := []) C (c_X8_isPerson l dC dI cs a M x2 r10 hr10) (cwV 1 hts gX8_sell_X8_isPerson rfl rfl rfl (by decide +kernel) ⟨Nat.le_of_ble_eq_true rfl, Nat.le_of_ble_eq_true rfl⟩) ⟨(fun a U g mk q => ⟨q.1, q.2.1, GE.calling q.2.2⟩), va_recv hK hPc (ci := 8) (q0 := 0) rfl rfl, (fun U hU hW => ⟨rfl, by rw [hU]; exact hPc, GE.warm hW G⟩)⟩ rfl rfl hl.1 rfl (lv_room (Nat.le_of_ble_eq_true rfl)) dX8_sell_10 ⟨Nat.le_of_ble_eq_true rfl, Nat.le_of_ble_eq_true rfl⟩) (fun qr10 hqr10 => ?_)
    obtain ⟨hqr10, hnr10⟩ := hqr10
    obtain rfl := hqr10.symm
    refine lv_if_eq (tgt := 42) hx hb dX8_sell_13 (by decide) (fun c2 => ?_) (fun c2 => ?_)
    · replace hf := it_t c2 hf
      exact b_X8_sell_42 C G hA hR M _ _ _ (lv_sub hl [0] rfl) hP hD hS hf
    · replace hf := it_f c2 hf
      refine lv_iload_n hx hb dX8_sell_16 rfl (lv_at hl 3 rfl) ?_
      refine lv_iconst (v := 0) hx hb dX8_sell_17 (by decide) ?_
      refine lv_sipush (v := 9999) hx hb dX8_sell_18 (by decide) ?_
      obtain ⟨r21, hr21, hf⟩ := bn_e hf
      have hPc := hP.sub (ws' := ([] : va_W)) [] rfl
      refine vp_callSi (W.runS (As := [.int (x3), .int ((0 : Int32)), .int ((9999 : Int32))]) (rest := []) C (c_X8_in l dC dI cs x3 (0 : Int32) (9999 : Int32) r21 hr21) (va_cwS 3 hts gX8_sell_X8_in rfl rfl rfl (by decide +kernel) ⟨Nat.le_of_ble_eq_true rfl, Nat.le_of_ble_eq_true rfl⟩) ⟨(fun a U g mk q => ⟨q.1, q.2.1, GE.calling q.2.2⟩), (fun U hU hW => ⟨rfl, by rw [hU]; exact hPc, GE.warm hW G⟩)⟩ rfl rfl hl.1 rfl (lv_room (Nat.le_of_ble_eq_true rfl)) dX8_sell_21 ⟨Nat.le_of_ble_eq_true rfl, Nat.le_of_ble_eq_true rfl⟩) (fun qr21 hqr21 => ?_)
      obtain ⟨hqr21, hnr21⟩ := hqr21
      obtain rfl := hqr21.symm
      refine lv_if_eq (tgt := 42) hx hb dX8_sell_24 (by decide) (fun c3 => ?_) (fun c3 => ?_)
      · replace hf := it_t c3 hf
        exact b_X8_sell_42 C G hA hR M _ _ _ (lv_sub hl [0] rfl) hP hD hS hf
      · replace hf := it_f c3 hf
        refine lv_aload_n hx hb dX8_sell_27 rfl (lv_at hl 0 rfl) ?_
        refine va_get (D := (dC, dI)) (ci := 8) (v := .ref (a 1)) (C := RX8) (T := TX8) (N := 20) hx hb hts in_X8_sell_X8 hown hK hP 0 rfl rfl 0 (by decide) (hts (.fieldLink RX8 7 "BackLoansModel" "now" "[I") (by decide +kernel)) (fun _ h9 => h9) rfl dX8_sell_28 ?_
        refine lv_bipush (v := 26) hx hb dX8_sell_31 (by decide) ?_
        refine lv_iconst (v := 5) hx hb dX8_sell_33 (by decide) ?_
        refine lv_iload_n hx hb dX8_sell_34 rfl (lv_at hl 1 rfl) ?_
        refine lv_imul hx hb dX8_sell_35 ?_
        refine lv_iadd hx hb dX8_sell_36 ?_
        obtain ⟨hi4, hf⟩ := gi_e hf
        refine va_iald hx hb hK hP 1 0 rfl rfl hi4 dX8_sell_37 ?_
        refine lv_iload_n hx hb dX8_sell_38 rfl (lv_at hl 2 rfl) ?_
        refine lv_icmp_ne (tgt := 47) hx hb dX8_sell_39 (by decide) (fun c5 => ?_) (fun c5 => ?_)
        · replace hf := it_f c5 hf
          refine lv_bipush (v := 26) hx hb dX8_sell_47 (by decide) ?_
          refine lv_iconst (v := 5) hx hb dX8_sell_49 (by decide) ?_
          refine lv_iload_n hx hb dX8_sell_50 rfl (lv_at hl 1 rfl) ?_
          refine lv_imul hx hb dX8_sell_51 ?_
          refine lv_iadd hx hb dX8_sell_52 ?_
          refine lv_topi (fun x4_53 ex4_53 => ?_)
          replace hf := lett_s ex4_53 hf
          refine lv_istore (lv' := [(4, .int (x4_53)), (0, .ref (a 0)), (1, .int (x1)), (2, .int (x2)), (3, .int (x3))]) hx hb dX8_sell_53 hl (by decide) rfl (fun ls hl => ?_)
          refine lv_aload_n hx hb dX8_sell_55 rfl (lv_at hl 1 rfl) ?_
          refine va_get (D := (dC, dI)) (ci := 8) (v := .ref (a 1)) (C := RX8) (T := TX8) (N := 20) hx hb hts in_X8_sell_X8 hown hK hP 0 rfl rfl 0 (by decide) (hts (.fieldLink RX8 7 "BackLoansModel" "now" "[I") (by decide +kernel)) (fun _ h9 => h9) rfl dX8_sell_56 ?_
          refine lv_iload hx hb dX8_sell_59 (lv_at hl 0 rfl) ?_
          refine lv_iconst (v := 3) hx hb dX8_sell_61 (by decide) ?_
          refine lv_iadd hx hb dX8_sell_62 ?_
          obtain ⟨hi6, hf⟩ := gi_e hf
          refine va_iald hx hb hK hP 1 0 rfl rfl hi6 dX8_sell_63 ?_
          refine lv_if_eq (tgt := 80) hx hb dX8_sell_64 (by decide) (fun c7 => ?_) (fun c7 => ?_)
          · replace hf := it_t c7 hf
            exact b_X8_sell_80 C G hA hR x2 x3 x4_53 M _ _ _ (lv_sub hl [1, 3, 4, 0] rfl) hP hD hS hf
          · replace hf := it_f c7 hf
            refine lv_aload_n hx hb dX8_sell_67 rfl (lv_at hl 1 rfl) ?_
            refine va_get (D := (dC, dI)) (ci := 8) (v := .ref (a 1)) (C := RX8) (T := TX8) (N := 20) hx hb hts in_X8_sell_X8 hown hK hP 0 rfl rfl 0 (by decide) (hts (.fieldLink RX8 7 "BackLoansModel" "now" "[I") (by decide +kernel)) (fun _ h9 => h9) rfl dX8_sell_68 ?_
            refine lv_iload hx hb dX8_sell_71 (lv_at hl 0 rfl) ?_
            refine lv_iconst (v := 3) hx hb dX8_sell_73 (by decide) ?_
            refine lv_iadd hx hb dX8_sell_74 ?_
            obtain ⟨hi8, hf⟩ := gi_e hf
            refine va_iald hx hb hK hP 1 0 rfl rfl hi8 dX8_sell_75 ?_
            refine lv_iconst (v := 2) hx hb dX8_sell_76 (by decide) ?_
            refine lv_icmp_ne (tgt := 97) hx hb dX8_sell_77 (by decide) (fun c9 => ?_) (fun c9 => ?_)
            · replace hf := it_f c9 hf
              exact b_X8_sell_97 C G hA hR M _ _ _ (lv_sub hl [1] rfl) hP hD hS hf
            · replace hf := it_t c9 hf
              exact b_X8_sell_80 C G hA hR x2 x3 x4_53 M _ _ _ (lv_sub hl [1, 3, 4, 0] rfl) hP hD hS hf
        · replace hf := it_t c5 hf
          exact b_X8_sell_42 C G hA hR M _ _ _ (lv_sub hl [0] rfl) hP hD hS hf

theorem in_X8_undo_X8 : ∀ w ∈ wsX80, w ∈ wsX8_undo := by decide +kernel
def f_X8_undo_83 (x1 : Int32) (x2 : Int32) (M : Ms) (K83 : Int32 → Ms → Option (Int32 × Ms)) (K124 : Ms → Option (Int32 × Ms)) : Option (Int32 × Ms) :=
  gi ((x1 + (3 : Int32))) 362 <|
  if ((M.2.2 0) ((x1 + (3 : Int32))).toNatClampNeg) ≤ x2 then (
    K124 M
  ) else (
    gi (((x1 + (5 : Int32)) + x2)) 362 <|
    gi ((((8 : Int32) + ((3 : Int32) * x2)) + (2 : Int32))) 362 <|
    lett ((M.1, M.2.1, va_up M.2.2 0 (upd (M.2.2 0) ((((8 : Int32) + ((3 : Int32) * x2)) + (2 : Int32))).toNatClampNeg (((M.2.2 0) (((x1 + (5 : Int32)) + x2)).toNatClampNeg))))) fun M_117 =>
    lett (x2 + 1) fun x2_118 =>
    K83 x2_118 M_117
  )
set_option maxHeartbeats 4000000 in
set_option maxRecDepth 100000 in
theorem b_X8_undo_83 {p : Program} {l : Launch} {e : Env} {s : State} {m : MethodId} {args : Array Value} {below : List Frame} {meth : Method} {c : Code} {Q : State → Prop} {dC : Nat → ClassId} {dI : Nat → Nat → Nat} {cs : Nat → ClassId} {A : Nat → Prop} {a : Nat → Nat} {res : Int32 × Ms} (C : CallFix p m c cX8_undo 3 s args wsX8_undo RX8) (G : GE dC dI cs s) (hA : ∀ q : Nat, s.heap.size ≤ q → A q) (hR : RTi p l e ({ frames := 1, cells := 0, slots := 0, locals := 20 }) s m args below meth c cX8_undo Q (dC, dI) A (fun u : Ms => (wM cs a u)) res) (x1 : Int32) (x2 : Int32) (M : Ms) {K83 : Int32 → Ms → Option (Int32 × Ms)} {K124 : Ms → Option (Int32 × Ms)} (hK83 : ∀ (x2 : Int32) (M : Ms) (H : Heap) (locs : List Loc) (ls : Array Slot), lv_has ls 3 [(0, .ref (a 0)), (1, .int (x1)), (2, .int (x2))] → va_P (dC, dI) vwCl (wM cs a M) H → va_D A (wM cs a M) → va_S A s.heap H locs → K83 x2 M = some res → W p l e ({ frames := 1, cells := 0, slots := 0, locals := 20 }) s m args below meth c H locs 0 0 Q (F0 m 83 ls [])) (hK124 : ∀ (M : Ms) (H : Heap) (locs : List Loc) (ls : Array Slot), lv_has ls 3 [(0, .ref (a 0)), (1, .int (x1))] → va_P (dC, dI) vwCl (wM cs a M) H → va_D A (wM cs a M) → va_S A s.heap H locs → K124 M = some res → W p l e ({ frames := 1, cells := 0, slots := 0, locals := 20 }) s m args below meth c H locs 0 0 Q (F0 m 124 ls [])) (H : Heap) (locs : List Loc) (ls : Array Slot) (hl : lv_has ls 3 [(0, .ref (a 0)), (1, .int (x1)), (2, .int (x2))]) (hP : va_P (dC, dI) vwCl (wM cs a M) H) (hD : va_D A (wM cs a M)) (hS : va_S A s.heap H locs) (hf : f_X8_undo_83 x1 x2 M K83 K124 = some res) : W p l e ({ frames := 1, cells := 0, slots := 0, locals := 20 }) s m args below meth c H locs 0 0 Q (F0 m 83 ls []) := by
  obtain ⟨hx, hb, hml, hown, hts⟩ := id C
  obtain ⟨hK, hN⟩ := id G
  unfold f_X8_undo_83 at hf
  refine lv_iload_n hx hb dX8_undo_83 rfl (lv_at hl 2 rfl) ?_
  refine lv_aload_n hx hb dX8_undo_84 rfl (lv_at hl 0 rfl) ?_
  refine va_get (D := (dC, dI)) (ci := 8) (v := .ref (a 1)) (C := RX8) (T := TX8) (N := 20) hx hb hts in_X8_undo_X8 hown hK hP 0 rfl rfl 0 (by decide) (hts (.fieldLink RX8 7 "BackLoansModel" "now" "[I") (by decide +kernel)) (fun _ h9 => h9) rfl dX8_undo_85 ?_
  refine lv_iload_n hx hb dX8_undo_88 rfl (lv_at hl 1 rfl) ?_
  refine lv_iconst (v := 3) hx hb dX8_undo_89 (by decide) ?_
  refine lv_iadd hx hb dX8_undo_90 ?_
  obtain ⟨hi1, hf⟩ := gi_e hf
  refine va_iald hx hb hK hP 1 0 rfl rfl hi1 dX8_undo_91 ?_
  refine lv_icmp_ge (tgt := 124) hx hb dX8_undo_92 (by decide) (fun c2 => ?_) (fun c2 => ?_)
  · replace hf := it_t c2 hf
    exact hK124 M _ _ _ (lv_sub hl [0, 1] rfl) hP hD hS hf
  · replace hf := it_f c2 hf
    refine lv_aload_n hx hb dX8_undo_95 rfl (lv_at hl 0 rfl) ?_
    refine va_get (D := (dC, dI)) (ci := 8) (v := .ref (a 1)) (C := RX8) (T := TX8) (N := 20) hx hb hts in_X8_undo_X8 hown hK hP 0 rfl rfl 0 (by decide) (hts (.fieldLink RX8 7 "BackLoansModel" "now" "[I") (by decide +kernel)) (fun _ h9 => h9) rfl dX8_undo_96 ?_
    refine lv_bipush (v := 8) hx hb dX8_undo_99 (by decide) ?_
    refine lv_iconst (v := 3) hx hb dX8_undo_101 (by decide) ?_
    refine lv_iload_n hx hb dX8_undo_102 rfl (lv_at hl 2 rfl) ?_
    refine lv_imul hx hb dX8_undo_103 ?_
    refine lv_iadd hx hb dX8_undo_104 ?_
    refine lv_iconst (v := 2) hx hb dX8_undo_105 (by decide) ?_
    refine lv_iadd hx hb dX8_undo_106 ?_
    refine lv_aload_n hx hb dX8_undo_107 rfl (lv_at hl 0 rfl) ?_
    refine va_get (D := (dC, dI)) (ci := 8) (v := .ref (a 1)) (C := RX8) (T := TX8) (N := 20) hx hb hts in_X8_undo_X8 hown hK hP 0 rfl rfl 0 (by decide) (hts (.fieldLink RX8 7 "BackLoansModel" "now" "[I") (by decide +kernel)) (fun _ h9 => h9) rfl dX8_undo_108 ?_
    refine lv_iload_n hx hb dX8_undo_111 rfl (lv_at hl 1 rfl) ?_
    refine lv_iconst (v := 5) hx hb dX8_undo_112 (by decide) ?_
    refine lv_iadd hx hb dX8_undo_113 ?_
    refine lv_iload_n hx hb dX8_undo_114 rfl (lv_at hl 2 rfl) ?_
    refine lv_iadd hx hb dX8_undo_115 ?_
    obtain ⟨hi3, hf⟩ := gi_e hf
    refine va_iald hx hb hK hP 1 0 rfl rfl hi3 dX8_undo_116 ?_
    obtain ⟨hi4, hf⟩ := gi_e hf
    refine va_iast hx hb hK hP hD hS 1 0 rfl rfl hi4 dX8_undo_117 (fun H locs hP hD hS => ?_)
    obtain ⟨M_117, hP, hD, hf⟩ := st_nm (ws := fun M_117 : Ms => (wM cs a M_117)) ((M.1, M.2.1, va_up M.2.2 0 (upd (M.2.2 0) ((((8 : Int32) + ((3 : Int32) * x2)) + (2 : Int32))).toNatClampNeg (((M.2.2 0) (((x1 + (5 : Int32)) + x2)).toNatClampNeg))))) hP hD hf
    obtain ⟨x2_118, ex2_118⟩ : ∃ y : Int32, y = (x2 + 1) := ⟨_, rfl⟩
    replace hf := lett_s ex2_118 hf
    refine lv_iinc (v := x2_118) (lv' := [(2, .int (x2_118)), (0, .ref (a 0)), (1, .int (x1))]) hx hb dX8_undo_118 hl (k := 2) rfl (by rw [ex2_118]; rfl) (by decide) rfl (fun ls hl => ?_)
    refine lv_goto (tgt := 83) hx hb dX8_undo_121 (by decide) ?_
    exact hK83 x2_118 M_117 _ _ _ (lv_sub hl [1, 2, 0] rfl) hP hD hS hf
def l_X8_undo_83 (x1 : Int32) (K124 : Ms → Option (Int32 × Ms)) (n : Nat) (x2 : Int32) (M : Ms) : Option (Int32 × Ms) := itr (fun (k : Int32 × Ms → Option (Int32 × Ms)) (z : Int32 × Ms) => f_X8_undo_83 x1 z.1 z.2 (fun x2 M => k (x2, M)) K124) n (x2, M)
set_option maxHeartbeats 4000000 in
set_option maxRecDepth 100000 in
theorem w_X8_undo_83 {p : Program} {l : Launch} {e : Env} {s : State} {m : MethodId} {args : Array Value} {below : List Frame} {meth : Method} {c : Code} {Q : State → Prop} {dC : Nat → ClassId} {dI : Nat → Nat → Nat} {cs : Nat → ClassId} {A : Nat → Prop} {a : Nat → Nat} {res : Int32 × Ms} (C : CallFix p m c cX8_undo 3 s args wsX8_undo RX8) (G : GE dC dI cs s) (hA : ∀ q : Nat, s.heap.size ≤ q → A q) (hR : RTi p l e ({ frames := 1, cells := 0, slots := 0, locals := 20 }) s m args below meth c cX8_undo Q (dC, dI) A (fun u : Ms => (wM cs a u)) res) (x1 : Int32) {K124 : Ms → Option (Int32 × Ms)} (hK124 : ∀ (M : Ms) (H : Heap) (locs : List Loc) (ls : Array Slot), lv_has ls 3 [(0, .ref (a 0)), (1, .int (x1))] → va_P (dC, dI) vwCl (wM cs a M) H → va_D A (wM cs a M) → va_S A s.heap H locs → K124 M = some res → W p l e ({ frames := 1, cells := 0, slots := 0, locals := 20 }) s m args below meth c H locs 0 0 Q (F0 m 124 ls [])) : ∀ (n : Nat) (x2 : Int32) (M : Ms) (H : Heap) (locs : List Loc) (ls : Array Slot), lv_has ls 3 [(0, .ref (a 0)), (1, .int (x1)), (2, .int (x2))] → va_P (dC, dI) vwCl (wM cs a M) H → va_D A (wM cs a M) → va_S A s.heap H locs → l_X8_undo_83 x1 K124 n x2 M = some res → W p l e ({ frames := 1, cells := 0, slots := 0, locals := 20 }) s m args below meth c H locs 0 0 Q (F0 m 83 ls []) := by
  intro n
  induction n with
  | zero => intro x2 M H locs ls hl hP hD hS hf; exact absurd hf (by simp [l_X8_undo_83, itr])
  | succ n ih => intro x2 M H locs ls hl hP hD hS hf; exact b_X8_undo_83 C G hA hR x1 x2 M (K83 := fun x2 M => l_X8_undo_83 x1 K124 n x2 M) (fun x2 M H locs ls hl hP hD hS hf => ih x2 M H locs ls hl hP hD hS hf) hK124 H locs ls hl hP hD hS hf
def f_X8_undo_126 (x1 : Int32) (x2 : Int32) (M : Ms) (K126 : Int32 → Ms → Option (Int32 × Ms)) : Option (Int32 × Ms) :=
  gi ((x1 + (4 : Int32))) 362 <|
  if ((M.2.2 0) ((x1 + (4 : Int32))).toNatClampNeg) ≤ x2 then (
    some ((1 : Int32), M)
  ) else (
    gi (((x1 + (11 : Int32)) + ((3 : Int32) * x2))) 362 <|
    gi (((26 : Int32) + ((5 : Int32) * x2))) 362 <|
    lett ((M.1, M.2.1, va_up M.2.2 0 (upd (M.2.2 0) (((26 : Int32) + ((5 : Int32) * x2))).toNatClampNeg (((M.2.2 0) (((x1 + (11 : Int32)) + ((3 : Int32) * x2))).toNatClampNeg))))) fun M_161 =>
    gi (((x1 + (12 : Int32)) + ((3 : Int32) * x2))) 362 <|
    gi ((((26 : Int32) + ((5 : Int32) * x2)) + (3 : Int32))) 362 <|
    lett ((M_161.1, M_161.2.1, va_up M_161.2.2 0 (upd (M_161.2.2 0) ((((26 : Int32) + ((5 : Int32) * x2)) + (3 : Int32))).toNatClampNeg (((M_161.2.2 0) (((x1 + (12 : Int32)) + ((3 : Int32) * x2))).toNatClampNeg))))) fun M_187 =>
    gi (((x1 + (13 : Int32)) + ((3 : Int32) * x2))) 362 <|
    gi ((((26 : Int32) + ((5 : Int32) * x2)) + (4 : Int32))) 362 <|
    lett ((M_187.1, M_187.2.1, va_up M_187.2.2 0 (upd (M_187.2.2 0) ((((26 : Int32) + ((5 : Int32) * x2)) + (4 : Int32))).toNatClampNeg (((M_187.2.2 0) (((x1 + (13 : Int32)) + ((3 : Int32) * x2))).toNatClampNeg))))) fun M_213 =>
    lett (x2 + 1) fun x2_214 =>
    K126 x2_214 M_213
  )
set_option maxHeartbeats 4000000 in
set_option maxRecDepth 100000 in
theorem b_X8_undo_126 {p : Program} {l : Launch} {e : Env} {s : State} {m : MethodId} {args : Array Value} {below : List Frame} {meth : Method} {c : Code} {Q : State → Prop} {dC : Nat → ClassId} {dI : Nat → Nat → Nat} {cs : Nat → ClassId} {A : Nat → Prop} {a : Nat → Nat} {res : Int32 × Ms} (C : CallFix p m c cX8_undo 3 s args wsX8_undo RX8) (G : GE dC dI cs s) (hA : ∀ q : Nat, s.heap.size ≤ q → A q) (hR : RTi p l e ({ frames := 1, cells := 0, slots := 0, locals := 20 }) s m args below meth c cX8_undo Q (dC, dI) A (fun u : Ms => (wM cs a u)) res) (x1 : Int32) (x2 : Int32) (M : Ms) {K126 : Int32 → Ms → Option (Int32 × Ms)} (hK126 : ∀ (x2 : Int32) (M : Ms) (H : Heap) (locs : List Loc) (ls : Array Slot), lv_has ls 3 [(0, .ref (a 0)), (1, .int (x1)), (2, .int (x2))] → va_P (dC, dI) vwCl (wM cs a M) H → va_D A (wM cs a M) → va_S A s.heap H locs → K126 x2 M = some res → W p l e ({ frames := 1, cells := 0, slots := 0, locals := 20 }) s m args below meth c H locs 0 0 Q (F0 m 126 ls [])) (H : Heap) (locs : List Loc) (ls : Array Slot) (hl : lv_has ls 3 [(0, .ref (a 0)), (1, .int (x1)), (2, .int (x2))]) (hP : va_P (dC, dI) vwCl (wM cs a M) H) (hD : va_D A (wM cs a M)) (hS : va_S A s.heap H locs) (hf : f_X8_undo_126 x1 x2 M K126 = some res) : W p l e ({ frames := 1, cells := 0, slots := 0, locals := 20 }) s m args below meth c H locs 0 0 Q (F0 m 126 ls []) := by
  obtain ⟨hx, hb, hml, hown, hts⟩ := id C
  obtain ⟨hK, hN⟩ := id G
  unfold f_X8_undo_126 at hf
  refine lv_iload_n hx hb dX8_undo_126 rfl (lv_at hl 2 rfl) ?_
  refine lv_aload_n hx hb dX8_undo_127 rfl (lv_at hl 0 rfl) ?_
  refine va_get (D := (dC, dI)) (ci := 8) (v := .ref (a 1)) (C := RX8) (T := TX8) (N := 20) hx hb hts in_X8_undo_X8 hown hK hP 0 rfl rfl 0 (by decide) (hts (.fieldLink RX8 7 "BackLoansModel" "now" "[I") (by decide +kernel)) (fun _ h9 => h9) rfl dX8_undo_128 ?_
  refine lv_iload_n hx hb dX8_undo_131 rfl (lv_at hl 1 rfl) ?_
  refine lv_iconst (v := 4) hx hb dX8_undo_132 (by decide) ?_
  refine lv_iadd hx hb dX8_undo_133 ?_
  obtain ⟨hi1, hf⟩ := gi_e hf
  refine va_iald hx hb hK hP 1 0 rfl rfl hi1 dX8_undo_134 ?_
  refine lv_icmp_ge (tgt := 220) hx hb dX8_undo_135 (by decide) (fun c2 => ?_) (fun c2 => ?_)
  · replace hf := it_t c2 hf
    refine lv_iconst (v := 1) hx hb dX8_undo_220 (by decide) ?_
    exact hR _ _ _ _ _ _ dX8_undo_221 hf hP hD hS
  · replace hf := it_f c2 hf
    refine lv_aload_n hx hb dX8_undo_138 rfl (lv_at hl 0 rfl) ?_
    refine va_get (D := (dC, dI)) (ci := 8) (v := .ref (a 1)) (C := RX8) (T := TX8) (N := 20) hx hb hts in_X8_undo_X8 hown hK hP 0 rfl rfl 0 (by decide) (hts (.fieldLink RX8 7 "BackLoansModel" "now" "[I") (by decide +kernel)) (fun _ h9 => h9) rfl dX8_undo_139 ?_
    refine lv_bipush (v := 26) hx hb dX8_undo_142 (by decide) ?_
    refine lv_iconst (v := 5) hx hb dX8_undo_144 (by decide) ?_
    refine lv_iload_n hx hb dX8_undo_145 rfl (lv_at hl 2 rfl) ?_
    refine lv_imul hx hb dX8_undo_146 ?_
    refine lv_iadd hx hb dX8_undo_147 ?_
    refine lv_aload_n hx hb dX8_undo_148 rfl (lv_at hl 0 rfl) ?_
    refine va_get (D := (dC, dI)) (ci := 8) (v := .ref (a 1)) (C := RX8) (T := TX8) (N := 20) hx hb hts in_X8_undo_X8 hown hK hP 0 rfl rfl 0 (by decide) (hts (.fieldLink RX8 7 "BackLoansModel" "now" "[I") (by decide +kernel)) (fun _ h9 => h9) rfl dX8_undo_149 ?_
    refine lv_iload_n hx hb dX8_undo_152 rfl (lv_at hl 1 rfl) ?_
    refine lv_bipush (v := 11) hx hb dX8_undo_153 (by decide) ?_
    refine lv_iadd hx hb dX8_undo_155 ?_
    refine lv_iconst (v := 3) hx hb dX8_undo_156 (by decide) ?_
    refine lv_iload_n hx hb dX8_undo_157 rfl (lv_at hl 2 rfl) ?_
    refine lv_imul hx hb dX8_undo_158 ?_
    refine lv_iadd hx hb dX8_undo_159 ?_
    obtain ⟨hi3, hf⟩ := gi_e hf
    refine va_iald hx hb hK hP 1 0 rfl rfl hi3 dX8_undo_160 ?_
    obtain ⟨hi4, hf⟩ := gi_e hf
    refine va_iast hx hb hK hP hD hS 1 0 rfl rfl hi4 dX8_undo_161 (fun H locs hP hD hS => ?_)
    obtain ⟨M_161, hP, hD, hf⟩ := st_nm (ws := fun M_161 : Ms => (wM cs a M_161)) ((M.1, M.2.1, va_up M.2.2 0 (upd (M.2.2 0) (((26 : Int32) + ((5 : Int32) * x2))).toNatClampNeg (((M.2.2 0) (((x1 + (11 : Int32)) + ((3 : Int32) * x2))).toNatClampNeg))))) hP hD hf
    refine lv_aload_n hx hb dX8_undo_162 rfl (lv_at hl 0 rfl) ?_
    refine va_get (D := (dC, dI)) (ci := 8) (v := .ref (a 1)) (C := RX8) (T := TX8) (N := 20) hx hb hts in_X8_undo_X8 hown hK hP 0 rfl rfl 0 (by decide) (hts (.fieldLink RX8 7 "BackLoansModel" "now" "[I") (by decide +kernel)) (fun _ h9 => h9) rfl dX8_undo_163 ?_
    refine lv_bipush (v := 26) hx hb dX8_undo_166 (by decide) ?_
    refine lv_iconst (v := 5) hx hb dX8_undo_168 (by decide) ?_
    refine lv_iload_n hx hb dX8_undo_169 rfl (lv_at hl 2 rfl) ?_
    refine lv_imul hx hb dX8_undo_170 ?_
    refine lv_iadd hx hb dX8_undo_171 ?_
    refine lv_iconst (v := 3) hx hb dX8_undo_172 (by decide) ?_
    refine lv_iadd hx hb dX8_undo_173 ?_
    refine lv_aload_n hx hb dX8_undo_174 rfl (lv_at hl 0 rfl) ?_
    refine va_get (D := (dC, dI)) (ci := 8) (v := .ref (a 1)) (C := RX8) (T := TX8) (N := 20) hx hb hts in_X8_undo_X8 hown hK hP 0 rfl rfl 0 (by decide) (hts (.fieldLink RX8 7 "BackLoansModel" "now" "[I") (by decide +kernel)) (fun _ h9 => h9) rfl dX8_undo_175 ?_
    refine lv_iload_n hx hb dX8_undo_178 rfl (lv_at hl 1 rfl) ?_
    refine lv_bipush (v := 12) hx hb dX8_undo_179 (by decide) ?_
    refine lv_iadd hx hb dX8_undo_181 ?_
    refine lv_iconst (v := 3) hx hb dX8_undo_182 (by decide) ?_
    refine lv_iload_n hx hb dX8_undo_183 rfl (lv_at hl 2 rfl) ?_
    refine lv_imul hx hb dX8_undo_184 ?_
    refine lv_iadd hx hb dX8_undo_185 ?_
    obtain ⟨hi5, hf⟩ := gi_e hf
    refine va_iald hx hb hK hP 1 0 rfl rfl hi5 dX8_undo_186 ?_
    obtain ⟨hi6, hf⟩ := gi_e hf
    refine va_iast hx hb hK hP hD hS 1 0 rfl rfl hi6 dX8_undo_187 (fun H locs hP hD hS => ?_)
    obtain ⟨M_187, hP, hD, hf⟩ := st_nm (ws := fun M_187 : Ms => (wM cs a M_187)) ((M_161.1, M_161.2.1, va_up M_161.2.2 0 (upd (M_161.2.2 0) ((((26 : Int32) + ((5 : Int32) * x2)) + (3 : Int32))).toNatClampNeg (((M_161.2.2 0) (((x1 + (12 : Int32)) + ((3 : Int32) * x2))).toNatClampNeg))))) hP hD hf
    refine lv_aload_n hx hb dX8_undo_188 rfl (lv_at hl 0 rfl) ?_
    refine va_get (D := (dC, dI)) (ci := 8) (v := .ref (a 1)) (C := RX8) (T := TX8) (N := 20) hx hb hts in_X8_undo_X8 hown hK hP 0 rfl rfl 0 (by decide) (hts (.fieldLink RX8 7 "BackLoansModel" "now" "[I") (by decide +kernel)) (fun _ h9 => h9) rfl dX8_undo_189 ?_
    refine lv_bipush (v := 26) hx hb dX8_undo_192 (by decide) ?_
    refine lv_iconst (v := 5) hx hb dX8_undo_194 (by decide) ?_
    refine lv_iload_n hx hb dX8_undo_195 rfl (lv_at hl 2 rfl) ?_
    refine lv_imul hx hb dX8_undo_196 ?_
    refine lv_iadd hx hb dX8_undo_197 ?_
    refine lv_iconst (v := 4) hx hb dX8_undo_198 (by decide) ?_
    refine lv_iadd hx hb dX8_undo_199 ?_
    refine lv_aload_n hx hb dX8_undo_200 rfl (lv_at hl 0 rfl) ?_
    refine va_get (D := (dC, dI)) (ci := 8) (v := .ref (a 1)) (C := RX8) (T := TX8) (N := 20) hx hb hts in_X8_undo_X8 hown hK hP 0 rfl rfl 0 (by decide) (hts (.fieldLink RX8 7 "BackLoansModel" "now" "[I") (by decide +kernel)) (fun _ h9 => h9) rfl dX8_undo_201 ?_
    refine lv_iload_n hx hb dX8_undo_204 rfl (lv_at hl 1 rfl) ?_
    refine lv_bipush (v := 13) hx hb dX8_undo_205 (by decide) ?_
    refine lv_iadd hx hb dX8_undo_207 ?_
    refine lv_iconst (v := 3) hx hb dX8_undo_208 (by decide) ?_
    refine lv_iload_n hx hb dX8_undo_209 rfl (lv_at hl 2 rfl) ?_
    refine lv_imul hx hb dX8_undo_210 ?_
    refine lv_iadd hx hb dX8_undo_211 ?_
    obtain ⟨hi7, hf⟩ := gi_e hf
    refine va_iald hx hb hK hP 1 0 rfl rfl hi7 dX8_undo_212 ?_
    obtain ⟨hi8, hf⟩ := gi_e hf
    refine va_iast hx hb hK hP hD hS 1 0 rfl rfl hi8 dX8_undo_213 (fun H locs hP hD hS => ?_)
    obtain ⟨M_213, hP, hD, hf⟩ := st_nm (ws := fun M_213 : Ms => (wM cs a M_213)) ((M_187.1, M_187.2.1, va_up M_187.2.2 0 (upd (M_187.2.2 0) ((((26 : Int32) + ((5 : Int32) * x2)) + (4 : Int32))).toNatClampNeg (((M_187.2.2 0) (((x1 + (13 : Int32)) + ((3 : Int32) * x2))).toNatClampNeg))))) hP hD hf
    obtain ⟨x2_214, ex2_214⟩ : ∃ y : Int32, y = (x2 + 1) := ⟨_, rfl⟩
    replace hf := lett_s ex2_214 hf
    refine lv_iinc (v := x2_214) (lv' := [(2, .int (x2_214)), (0, .ref (a 0)), (1, .int (x1))]) hx hb dX8_undo_214 hl (k := 2) rfl (by rw [ex2_214]; rfl) (by decide) rfl (fun ls hl => ?_)
    refine lv_goto (tgt := 126) hx hb dX8_undo_217 (by decide) ?_
    exact hK126 x2_214 M_213 _ _ _ (lv_sub hl [1, 2, 0] rfl) hP hD hS hf
def l_X8_undo_126 (x1 : Int32)  (n : Nat) (x2 : Int32) (M : Ms) : Option (Int32 × Ms) := itr (fun (k : Int32 × Ms → Option (Int32 × Ms)) (z : Int32 × Ms) => f_X8_undo_126 x1 z.1 z.2 (fun x2 M => k (x2, M))) n (x2, M)
set_option maxHeartbeats 4000000 in
set_option maxRecDepth 100000 in
theorem w_X8_undo_126 {p : Program} {l : Launch} {e : Env} {s : State} {m : MethodId} {args : Array Value} {below : List Frame} {meth : Method} {c : Code} {Q : State → Prop} {dC : Nat → ClassId} {dI : Nat → Nat → Nat} {cs : Nat → ClassId} {A : Nat → Prop} {a : Nat → Nat} {res : Int32 × Ms} (C : CallFix p m c cX8_undo 3 s args wsX8_undo RX8) (G : GE dC dI cs s) (hA : ∀ q : Nat, s.heap.size ≤ q → A q) (hR : RTi p l e ({ frames := 1, cells := 0, slots := 0, locals := 20 }) s m args below meth c cX8_undo Q (dC, dI) A (fun u : Ms => (wM cs a u)) res) (x1 : Int32)   : ∀ (n : Nat) (x2 : Int32) (M : Ms) (H : Heap) (locs : List Loc) (ls : Array Slot), lv_has ls 3 [(0, .ref (a 0)), (1, .int (x1)), (2, .int (x2))] → va_P (dC, dI) vwCl (wM cs a M) H → va_D A (wM cs a M) → va_S A s.heap H locs → l_X8_undo_126 x1 n x2 M = some res → W p l e ({ frames := 1, cells := 0, slots := 0, locals := 20 }) s m args below meth c H locs 0 0 Q (F0 m 126 ls []) := by
  intro n
  induction n with
  | zero => intro x2 M H locs ls hl hP hD hS hf; exact absurd hf (by simp [l_X8_undo_126, itr])
  | succ n ih => intro x2 M H locs ls hl hP hD hS hf; exact b_X8_undo_126 C G hA hR x1 x2 M (K126 := fun x2 M => l_X8_undo_126 x1 n x2 M) (fun x2 M H locs ls hl hP hD hS hf => ih x2 M H locs ls hl hP hD hS hf) H locs ls hl hP hD hS hf
def f_X8_undo_124 (x1 : Int32) (M : Ms)  : Option (Int32 × Ms) :=
  lett (0 : Int32) fun x2_125 =>
  l_X8_undo_126 x1 FU x2_125 M
set_option maxHeartbeats 4000000 in
set_option maxRecDepth 100000 in
theorem b_X8_undo_124 {p : Program} {l : Launch} {e : Env} {s : State} {m : MethodId} {args : Array Value} {below : List Frame} {meth : Method} {c : Code} {Q : State → Prop} {dC : Nat → ClassId} {dI : Nat → Nat → Nat} {cs : Nat → ClassId} {A : Nat → Prop} {a : Nat → Nat} {res : Int32 × Ms} (C : CallFix p m c cX8_undo 3 s args wsX8_undo RX8) (G : GE dC dI cs s) (hA : ∀ q : Nat, s.heap.size ≤ q → A q) (hR : RTi p l e ({ frames := 1, cells := 0, slots := 0, locals := 20 }) s m args below meth c cX8_undo Q (dC, dI) A (fun u : Ms => (wM cs a u)) res) (x1 : Int32) (M : Ms)   (H : Heap) (locs : List Loc) (ls : Array Slot) (hl : lv_has ls 3 [(0, .ref (a 0)), (1, .int (x1))]) (hP : va_P (dC, dI) vwCl (wM cs a M) H) (hD : va_D A (wM cs a M)) (hS : va_S A s.heap H locs) (hf : f_X8_undo_124 x1 M = some res) : W p l e ({ frames := 1, cells := 0, slots := 0, locals := 20 }) s m args below meth c H locs 0 0 Q (F0 m 124 ls []) := by
  obtain ⟨hx, hb, hml, hown, hts⟩ := id C
  obtain ⟨hK, hN⟩ := id G
  unfold f_X8_undo_124 at hf
  refine lv_iconst (v := 0) hx hb dX8_undo_124 (by decide) ?_
  refine lv_topi (fun x2_125 ex2_125 => ?_)
  replace hf := lett_s ex2_125 hf
  refine lv_istore_n (lv' := [(2, .int (x2_125)), (0, .ref (a 0)), (1, .int (x1))]) hx hb dX8_undo_125 rfl hl (by decide) rfl (fun ls hl => ?_)
  exact w_X8_undo_126 C G hA hR x1 FU x2_125 M _ _ _ (lv_sub hl [1, 2, 0] rfl) hP hD hS hf
def f_X8_undo  (M : Ms) : Option (Int32 × Ms) :=
  gi ((7 : Int32)) 362 <|
  if ((M.2.2 0) ((7 : Int32)).toNatClampNeg) = 0 then (
    bn (f_X8_no M) fun r11 =>
    some (r11.1, r11.2)
  ) else (
    gi ((7 : Int32)) 362 <|
    gi ((7 : Int32)) 362 <|
    lett ((M.1, M.2.1, va_up M.2.2 0 (upd (M.2.2 0) ((7 : Int32)).toNatClampNeg ((((M.2.2 0) ((7 : Int32)).toNatClampNeg) - (1 : Int32)))))) fun M_25 =>
    gi ((7 : Int32)) 362 <|
    lett ((82 : Int32) + ((35 : Int32) * ((M_25.2.2 0) ((7 : Int32)).toNatClampNeg))) fun x1_39 =>
    gi (x1_39) 362 <|
    gi ((0 : Int32)) 362 <|
    lett ((M_25.1, M_25.2.1, va_up M_25.2.2 0 (upd (M_25.2.2 0) ((0 : Int32)).toNatClampNeg (((M_25.2.2 0) (x1_39).toNatClampNeg))))) fun M_51 =>
    gi ((x1_39 + (1 : Int32))) 362 <|
    gi ((6 : Int32)) 362 <|
    lett ((M_51.1, M_51.2.1, va_up M_51.2.2 0 (upd (M_51.2.2 0) ((6 : Int32)).toNatClampNeg (((M_51.2.2 0) ((x1_39 + (1 : Int32))).toNatClampNeg))))) fun M_66 =>
    gi ((x1_39 + (2 : Int32))) 362 <|
    gi ((2 : Int32)) 362 <|
    lett ((M_66.1, M_66.2.1, va_up M_66.2.2 0 (upd (M_66.2.2 0) ((2 : Int32)).toNatClampNeg (((M_66.2.2 0) ((x1_39 + (2 : Int32))).toNatClampNeg))))) fun M_80 =>
    lett (0 : Int32) fun x2_82 =>
    l_X8_undo_83 x1_39 (fun Mz => f_X8_undo_124 x1_39 Mz) FU x2_82 M_80
  )
set_option maxHeartbeats 4000000 in
set_option maxRecDepth 100000 in
theorem c_X8_undo (l : Launch) (dC : Nat → ClassId) (dI : Nat → Nat → Nat) (cs : Nat → ClassId) (a : Nat → Nat) (sz : Nat) (M : Ms)  (res : Int32 × Ms) (hf : f_X8_undo M = some res) : Met l yX8_undo wsX8_undo ({ frames := 1, cells := 0, slots := 0, locals := 20 }) (va_Pc [.ref (a 0)] (fun U => U.heap.size = sz ∧ va_P (dC, dI) vwCl (wM cs a M) U.heap ∧ GE dC dI cs U ∧ va_D (fun _ => True) (wM cs a M))) (va_Qi (fun r (u : Ms) => r = res.1 ∧ u = res.2) (fun u t => va_P (dC, dI) vwCl ((fun u : Ms => (wM cs a u)) u) t.heap ∧ va_D (va_A (wM cs a M) sz) ((fun u : Ms => (wM cs a u)) u)) (va_A (wM cs a M) sz)) 0 0 (va_A (wM cs a M) sz) := by
  refine Met.ofW (cc := cX8_undo) (maxL := 3) (ret := (some .int)) (by decide) rfl ?_
  intro p e s m args below meth c s₁ Bd hml hv
  obtain ⟨rfl, hsz, hP, G, hD0⟩ := hv
  have hts := atoms_spec (ws := wsX8_undo) Bd.pre
  have hown : s.vm.findClass RX8 = some m.cls := findClass_of_methodNamed Bd.named
  have hlocks := Bd.notSynchronized
  have hx := Bd.exec
  have hb := Bd.bytes
  have hr := Bd.returns
  have C : CallFix p m c cX8_undo 3 s _ wsX8_undo RX8 := ⟨hx, hb, hml, hown, hts⟩
  obtain ⟨hK, hN⟩ := id G
  subst hsz
  have hD := hD0.self (sz := s.heap.size)
  generalize hAe : va_A (wM cs a M) s.heap.size = A at hD ⊢
  have hA : ∀ q : Nat, s.heap.size ≤ q → A q := fun q h => by rw [← hAe]; exact Or.inr h
  have hS : va_S A s.heap s.heap [] := va_S.rf
  have hR : RTi p l e ({ frames := 1, cells := 0, slots := 0, locals := 20 }) s m ([.ref (a 0)] : List Value).toArray below meth c cX8_undo (MQ below (va_Qi (fun r (u : Ms) => r = res.1 ∧ u = res.2) (fun u t => va_P (dC, dI) vwCl ((fun u : Ms => (wM cs a u)) u) t.heap ∧ va_D A ((fun u : Ms => (wM cs a u)) u)) A) ([.ref (a 0)] : List Value).toArray s 0 0 A) (dC, dI) A (fun u : Ms => (wM cs a u)) res := fun H locs pc ls r u dd h hP hD hS => W.iret hx hb hr (fun t ht hW => ⟨⟨r, u, rfl, by cases h; exact ⟨rfl, rfl⟩, by rw [ht]; exact hP, hD⟩, hS.F ht⟩) hS.2.2 dd
  have hl := lv_entry ([.ref (a 0)]) (n := 3) (Nat.le_of_ble_eq_true rfl)
  rw [lg_entry_eq]
  generalize (lg_sl ([.ref (a 0)]) ++ List.replicate (3 - (lg_sl ([.ref (a 0)])).length) Slot.unset).toArray = ls at hl ⊢
  have hl : lv_has ls 3 [(0, .ref (a 0))] := hl
  unfold f_X8_undo at hf
  refine lv_aload_n hx hb dX8_undo_0 rfl (lv_at hl 0 rfl) ?_
  refine va_get (D := (dC, dI)) (ci := 8) (v := .ref (a 1)) (C := RX8) (T := TX8) (N := 20) hx hb hts in_X8_undo_X8 hown hK hP 0 rfl rfl 0 (by decide) (hts (.fieldLink RX8 7 "BackLoansModel" "now" "[I") (by decide +kernel)) (fun _ h9 => h9) rfl dX8_undo_1 ?_
  refine lv_bipush (v := 7) hx hb dX8_undo_4 (by decide) ?_
  obtain ⟨hi1, hf⟩ := gi_e hf
  refine va_iald hx hb hK hP 1 0 rfl rfl hi1 dX8_undo_6 ?_
  refine lv_if_ne (tgt := 15) hx hb dX8_undo_7 (by decide) (fun c2 => ?_) (fun c2 => ?_)
  · replace hf := it_f c2 hf
    refine lv_aload_n hx hb dX8_undo_15 rfl (lv_at hl 0 rfl) ?_
    refine va_get (D := (dC, dI)) (ci := 8) (v := .ref (a 1)) (C := RX8) (T := TX8) (N := 20) hx hb hts in_X8_undo_X8 hown hK hP 0 rfl rfl 0 (by decide) (hts (.fieldLink RX8 7 "BackLoansModel" "now" "[I") (by decide +kernel)) (fun _ h9 => h9) rfl dX8_undo_16 ?_
    refine lv_bipush (v := 7) hx hb dX8_undo_19 (by decide) ?_
    refine lv_dup2_11 hx hb dX8_undo_21 rfl rfl ?_
    obtain ⟨hi3, hf⟩ := gi_e hf
    refine va_iald hx hb hK hP 1 0 rfl rfl hi3 dX8_undo_22 ?_
    refine lv_iconst (v := 1) hx hb dX8_undo_23 (by decide) ?_
    refine lv_isub hx hb dX8_undo_24 ?_
    obtain ⟨hi4, hf⟩ := gi_e hf
    refine va_iast hx hb hK hP hD hS 1 0 rfl rfl hi4 dX8_undo_25 (fun H locs hP hD hS => ?_)
    obtain ⟨M_25, hP, hD, hf⟩ := st_nm (ws := fun M_25 : Ms => (wM cs a M_25)) ((M.1, M.2.1, va_up M.2.2 0 (upd (M.2.2 0) ((7 : Int32)).toNatClampNeg ((((M.2.2 0) ((7 : Int32)).toNatClampNeg) - (1 : Int32)))))) hP hD hf
    refine lv_bipush (v := 82) hx hb dX8_undo_26 (by decide) ?_
    refine lv_bipush (v := 35) hx hb dX8_undo_28 (by decide) ?_
    refine lv_aload_n hx hb dX8_undo_30 rfl (lv_at hl 0 rfl) ?_
    refine va_get (D := (dC, dI)) (ci := 8) (v := .ref (a 1)) (C := RX8) (T := TX8) (N := 20) hx hb hts in_X8_undo_X8 hown hK hP 0 rfl rfl 0 (by decide) (hts (.fieldLink RX8 7 "BackLoansModel" "now" "[I") (by decide +kernel)) (fun _ h9 => h9) rfl dX8_undo_31 ?_
    refine lv_bipush (v := 7) hx hb dX8_undo_34 (by decide) ?_
    obtain ⟨hi5, hf⟩ := gi_e hf
    refine va_iald hx hb hK hP 1 0 rfl rfl hi5 dX8_undo_36 ?_
    refine lv_imul hx hb dX8_undo_37 ?_
    refine lv_iadd hx hb dX8_undo_38 ?_
    refine lv_topi (fun x1_39 ex1_39 => ?_)
    replace hf := lett_s ex1_39 hf
    refine lv_istore_n (lv' := [(1, .int (x1_39)), (0, .ref (a 0))]) hx hb dX8_undo_39 rfl hl (by decide) rfl (fun ls hl => ?_)
    refine lv_aload_n hx hb dX8_undo_40 rfl (lv_at hl 1 rfl) ?_
    refine va_get (D := (dC, dI)) (ci := 8) (v := .ref (a 1)) (C := RX8) (T := TX8) (N := 20) hx hb hts in_X8_undo_X8 hown hK hP 0 rfl rfl 0 (by decide) (hts (.fieldLink RX8 7 "BackLoansModel" "now" "[I") (by decide +kernel)) (fun _ h9 => h9) rfl dX8_undo_41 ?_
    refine lv_iconst (v := 0) hx hb dX8_undo_44 (by decide) ?_
    refine lv_aload_n hx hb dX8_undo_45 rfl (lv_at hl 1 rfl) ?_
    refine va_get (D := (dC, dI)) (ci := 8) (v := .ref (a 1)) (C := RX8) (T := TX8) (N := 20) hx hb hts in_X8_undo_X8 hown hK hP 0 rfl rfl 0 (by decide) (hts (.fieldLink RX8 7 "BackLoansModel" "now" "[I") (by decide +kernel)) (fun _ h9 => h9) rfl dX8_undo_46 ?_
    refine lv_iload_n hx hb dX8_undo_49 rfl (lv_at hl 0 rfl) ?_
    obtain ⟨hi6, hf⟩ := gi_e hf
    refine va_iald hx hb hK hP 1 0 rfl rfl hi6 dX8_undo_50 ?_
    obtain ⟨hi7, hf⟩ := gi_e hf
    refine va_iast hx hb hK hP hD hS 1 0 rfl rfl hi7 dX8_undo_51 (fun H locs hP hD hS => ?_)
    obtain ⟨M_51, hP, hD, hf⟩ := st_nm (ws := fun M_51 : Ms => (wM cs a M_51)) ((M_25.1, M_25.2.1, va_up M_25.2.2 0 (upd (M_25.2.2 0) ((0 : Int32)).toNatClampNeg (((M_25.2.2 0) (x1_39).toNatClampNeg))))) hP hD hf
    refine lv_aload_n hx hb dX8_undo_52 rfl (lv_at hl 1 rfl) ?_
    refine va_get (D := (dC, dI)) (ci := 8) (v := .ref (a 1)) (C := RX8) (T := TX8) (N := 20) hx hb hts in_X8_undo_X8 hown hK hP 0 rfl rfl 0 (by decide) (hts (.fieldLink RX8 7 "BackLoansModel" "now" "[I") (by decide +kernel)) (fun _ h9 => h9) rfl dX8_undo_53 ?_
    refine lv_bipush (v := 6) hx hb dX8_undo_56 (by decide) ?_
    refine lv_aload_n hx hb dX8_undo_58 rfl (lv_at hl 1 rfl) ?_
    refine va_get (D := (dC, dI)) (ci := 8) (v := .ref (a 1)) (C := RX8) (T := TX8) (N := 20) hx hb hts in_X8_undo_X8 hown hK hP 0 rfl rfl 0 (by decide) (hts (.fieldLink RX8 7 "BackLoansModel" "now" "[I") (by decide +kernel)) (fun _ h9 => h9) rfl dX8_undo_59 ?_
    refine lv_iload_n hx hb dX8_undo_62 rfl (lv_at hl 0 rfl) ?_
    refine lv_iconst (v := 1) hx hb dX8_undo_63 (by decide) ?_
    refine lv_iadd hx hb dX8_undo_64 ?_
    obtain ⟨hi8, hf⟩ := gi_e hf
    refine va_iald hx hb hK hP 1 0 rfl rfl hi8 dX8_undo_65 ?_
    obtain ⟨hi9, hf⟩ := gi_e hf
    refine va_iast hx hb hK hP hD hS 1 0 rfl rfl hi9 dX8_undo_66 (fun H locs hP hD hS => ?_)
    obtain ⟨M_66, hP, hD, hf⟩ := st_nm (ws := fun M_66 : Ms => (wM cs a M_66)) ((M_51.1, M_51.2.1, va_up M_51.2.2 0 (upd (M_51.2.2 0) ((6 : Int32)).toNatClampNeg (((M_51.2.2 0) ((x1_39 + (1 : Int32))).toNatClampNeg))))) hP hD hf
    refine lv_aload_n hx hb dX8_undo_67 rfl (lv_at hl 1 rfl) ?_
    refine va_get (D := (dC, dI)) (ci := 8) (v := .ref (a 1)) (C := RX8) (T := TX8) (N := 20) hx hb hts in_X8_undo_X8 hown hK hP 0 rfl rfl 0 (by decide) (hts (.fieldLink RX8 7 "BackLoansModel" "now" "[I") (by decide +kernel)) (fun _ h9 => h9) rfl dX8_undo_68 ?_
    refine lv_iconst (v := 2) hx hb dX8_undo_71 (by decide) ?_
    refine lv_aload_n hx hb dX8_undo_72 rfl (lv_at hl 1 rfl) ?_
    refine va_get (D := (dC, dI)) (ci := 8) (v := .ref (a 1)) (C := RX8) (T := TX8) (N := 20) hx hb hts in_X8_undo_X8 hown hK hP 0 rfl rfl 0 (by decide) (hts (.fieldLink RX8 7 "BackLoansModel" "now" "[I") (by decide +kernel)) (fun _ h9 => h9) rfl dX8_undo_73 ?_
    refine lv_iload_n hx hb dX8_undo_76 rfl (lv_at hl 0 rfl) ?_
    refine lv_iconst (v := 2) hx hb dX8_undo_77 (by decide) ?_
    refine lv_iadd hx hb dX8_undo_78 ?_
    obtain ⟨hi10, hf⟩ := gi_e hf
    refine va_iald hx hb hK hP 1 0 rfl rfl hi10 dX8_undo_79 ?_
    obtain ⟨hi11, hf⟩ := gi_e hf
    refine va_iast hx hb hK hP hD hS 1 0 rfl rfl hi11 dX8_undo_80 (fun H locs hP hD hS => ?_)
    obtain ⟨M_80, hP, hD, hf⟩ := st_nm (ws := fun M_80 : Ms => (wM cs a M_80)) ((M_66.1, M_66.2.1, va_up M_66.2.2 0 (upd (M_66.2.2 0) ((2 : Int32)).toNatClampNeg (((M_66.2.2 0) ((x1_39 + (2 : Int32))).toNatClampNeg))))) hP hD hf
    refine lv_iconst (v := 0) hx hb dX8_undo_81 (by decide) ?_
    refine lv_topi (fun x2_82 ex2_82 => ?_)
    replace hf := lett_s ex2_82 hf
    refine lv_istore_n (lv' := [(2, .int (x2_82)), (1, .int (x1_39)), (0, .ref (a 0))]) hx hb dX8_undo_82 rfl hl (by decide) rfl (fun ls hl => ?_)
    exact w_X8_undo_83 C G hA hR x1_39 (fun Mz H locs ls hl hP hD hS hf => b_X8_undo_124 C G hA hR x1_39 Mz _ _ _ hl hP hD hS hf) FU x2_82 M_80 _ _ _ (lv_sub hl [2, 1, 0] rfl) hP hD hS hf
  · replace hf := it_t c2 hf
    refine lv_aload_n hx hb dX8_undo_10 rfl (lv_at hl 0 rfl) ?_
    obtain ⟨r11, hr11, hf⟩ := bn_e hf
    have hPc := hP.sub (ws' := (wM cs a M)) [0, 1, 2, 3, 4, 5, 6, 7, 8, 9, 10, 11] rfl
    have hDc := hD.sub (ws' := (wM cs a M)) [0, 1, 2, 3, 4, 5, 6, 7, 8, 9, 10, 11] (by decide) rfl
    have hFc := va_free (wc := (wM cs a M)) hD hS hA [0, 1, 2, 3, 4, 5, 6, 7, 8, 9, 10, 11] rfl
    refine va_calli (va_runV (As := []) (rest := []) C (c_X8_no l dC dI cs a s.heap.size M r11 hr11) (cwV 0 hts gX8_undo_X8_no rfl rfl rfl (by decide +kernel) ⟨Nat.le_of_ble_eq_true rfl, Nat.le_of_ble_eq_true rfl⟩) ⟨(fun a U g mk q => ⟨q.1, q.2.1, q.2.2.1, GE.calling q.2.2.2.1, q.2.2.2.2⟩), va_recv hK hPc (ci := 8) (q0 := 0) rfl rfl, (fun U hU hW => ⟨rfl, by rw [hU], by rw [hU]; exact hPc, GE.warm hW G, hDc.weaken (fun _ _ _ _ => trivial)⟩)⟩ rfl rfl hl.1 rfl (lv_room (Nat.le_of_ble_eq_true rfl)) dX8_undo_11 ⟨Nat.le_of_ble_eq_true rfl, Nat.le_of_ble_eq_true rfl⟩) hS (fun q _ h => hFc q h) hFc (fun q u t H1 locs ht hvm hw hB hz1 hk1 hS => ?_)
    obtain ⟨rfl, rfl⟩ := hw
    obtain ⟨hP1, hD1⟩ := hB
    rw [ht] at hP1
    obtain ⟨hP, hD⟩ := va_join (wr := []) (w1 := (wM cs a r11.2)) hP hD [0, 1, 2, 3, 4, 5, 6, 7, 8, 9, 10, 11] [] rfl rfl (by decide) (by decide) hk1 hFc hP1 hD1
    generalize H1 = H at hP hS ⊢
    have hP := hP.sub (ws' := (wM cs a r11.2)) [0, 1, 2, 3, 4, 5, 6, 7, 8, 9, 10, 11] rfl
    have hD := hD.sub (ws' := (wM cs a r11.2)) [0, 1, 2, 3, 4, 5, 6, 7, 8, 9, 10, 11] (by decide) rfl
    exact hR _ _ _ _ _ _ dX8_undo_14 hf hP hD hS

theorem in_X8_whose_X8 : ∀ w ∈ wsX80, w ∈ wsX8_whose := by decide +kernel
def f_X8_whose_33 (M : Ms)  : Option (Int32 × Ms) :=
  bn (f_X8_bad M) fun r34 =>
  some (r34.1, r34.2)
set_option maxHeartbeats 4000000 in
set_option maxRecDepth 100000 in
theorem b_X8_whose_33 {p : Program} {l : Launch} {e : Env} {s : State} {m : MethodId} {args : Array Value} {below : List Frame} {meth : Method} {c : Code} {Q : State → Prop} {dC : Nat → ClassId} {dI : Nat → Nat → Nat} {cs : Nat → ClassId} {A : Nat → Prop} {a : Nat → Nat} {res : Int32 × Ms} (C : CallFix p m c cX8_whose 3 s args wsX8_whose RX8) (G : GE dC dI cs s) (hA : ∀ q : Nat, s.heap.size ≤ q → A q) (hR : RTi p l e ({ frames := 2, cells := 0, slots := 0, locals := 43 }) s m args below meth c cX8_whose Q (dC, dI) A (fun u : Ms => (wM cs a u)) res) (M : Ms)   (H : Heap) (locs : List Loc) (ls : Array Slot) (hl : lv_has ls 3 [(0, .ref (a 0))]) (hP : va_P (dC, dI) vwCl (wM cs a M) H) (hD : va_D A (wM cs a M)) (hS : va_S A s.heap H locs) (hf : f_X8_whose_33 M = some res) : W p l e ({ frames := 2, cells := 0, slots := 0, locals := 43 }) s m args below meth c H locs 0 0 Q (F0 m 33 ls []) := by
  obtain ⟨hx, hb, hml, hown, hts⟩ := id C
  obtain ⟨hK, hN⟩ := id G
  unfold f_X8_whose_33 at hf
  refine lv_aload_n hx hb dX8_whose_33 rfl (lv_at hl 0 rfl) ?_
  obtain ⟨r34, hr34, hf⟩ := bn_e hf
  have hPc := hP.sub (ws' := (wM cs a M)) [0, 1, 2, 3, 4, 5, 6, 7, 8, 9, 10, 11] rfl
  have hDc := hD.sub (ws' := (wM cs a M)) [0, 1, 2, 3, 4, 5, 6, 7, 8, 9, 10, 11] (by decide) rfl
  have hFc := va_free (wc := (wM cs a M)) hD hS hA [0, 1, 2, 3, 4, 5, 6, 7, 8, 9, 10, 11] rfl
  refine va_calli (va_runV (As := []) (rest := []) C (c_X8_bad l dC dI cs a H.size M r34 hr34) (cwV 0 hts gX8_whose_X8_bad rfl rfl rfl (by decide +kernel) ⟨Nat.le_of_ble_eq_true rfl, Nat.le_of_ble_eq_true rfl⟩) ⟨(fun a U g mk q => ⟨q.1, q.2.1, q.2.2.1, GE.calling q.2.2.2.1, q.2.2.2.2⟩), va_recv hK hPc (ci := 8) (q0 := 0) rfl rfl, (fun U hU hW => ⟨rfl, by rw [hU], by rw [hU]; exact hPc, GE.warm hW G, hDc.weaken (fun _ _ _ _ => trivial)⟩)⟩ rfl rfl hl.1 rfl (lv_room (Nat.le_of_ble_eq_true rfl)) dX8_whose_34 ⟨Nat.le_of_ble_eq_true rfl, Nat.le_of_ble_eq_true rfl⟩) hS (fun q _ h => hFc q h) hFc (fun q u t H1 locs ht hvm hw hB hz1 hk1 hS => ?_)
  obtain ⟨rfl, rfl⟩ := hw
  obtain ⟨hP1, hD1⟩ := hB
  rw [ht] at hP1
  obtain ⟨hP, hD⟩ := va_join (wr := []) (w1 := (wM cs a r34.2)) hP hD [0, 1, 2, 3, 4, 5, 6, 7, 8, 9, 10, 11] [] rfl rfl (by decide) (by decide) hk1 hFc hP1 hD1
  generalize H1 = H at hP hS ⊢
  have hP := hP.sub (ws' := (wM cs a r34.2)) [0, 1, 2, 3, 4, 5, 6, 7, 8, 9, 10, 11] rfl
  have hD := hD.sub (ws' := (wM cs a r34.2)) [0, 1, 2, 3, 4, 5, 6, 7, 8, 9, 10, 11] (by decide) rfl
  exact hR _ _ _ _ _ _ dX8_whose_37 hf hP hD hS
def f_X8_whose (x1 : Int32) (x2 : Int32) (M : Ms) : Option (Int32 × Ms) :=
  bn (f_X8_isPerson x1 M) fun r2 =>
  if r2 = 0 then (
    f_X8_whose_33 M
  ) else (
    bn (f_X8_in x2 (0 : Int32) (2 : Int32)) fun r11 =>
    if r11 = 0 then (
      f_X8_whose_33 M
    ) else (
      gi ((((8 : Int32) + ((3 : Int32) * x1)) + x2)) 362 <|
      some (((M.2.2 0) ((((8 : Int32) + ((3 : Int32) * x1)) + x2)).toNatClampNeg), M)
    )
  )
set_option maxHeartbeats 4000000 in
set_option maxRecDepth 100000 in
theorem c_X8_whose (l : Launch) (dC : Nat → ClassId) (dI : Nat → Nat → Nat) (cs : Nat → ClassId) (a : Nat → Nat) (sz : Nat) (M : Ms) (x1 : Int32) (x2 : Int32) (res : Int32 × Ms) (hf : f_X8_whose x1 x2 M = some res) : Met l yX8_whose wsX8_whose ({ frames := 2, cells := 0, slots := 0, locals := 43 }) (va_Pc [.ref (a 0), .int (x1), .int (x2)] (fun U => U.heap.size = sz ∧ va_P (dC, dI) vwCl (wM cs a M) U.heap ∧ GE dC dI cs U ∧ va_D (fun _ => True) (wM cs a M))) (va_Qi (fun r (u : Ms) => r = res.1 ∧ u = res.2) (fun u t => va_P (dC, dI) vwCl ((fun u : Ms => (wM cs a u)) u) t.heap ∧ va_D (va_A (wM cs a M) sz) ((fun u : Ms => (wM cs a u)) u)) (va_A (wM cs a M) sz)) 0 0 (va_A (wM cs a M) sz) := by
  refine Met.ofW (cc := cX8_whose) (maxL := 3) (ret := (some .int)) (by decide) rfl ?_
  intro p e s m args below meth c s₁ Bd hml hv
  obtain ⟨rfl, hsz, hP, G, hD0⟩ := hv
  have hts := atoms_spec (ws := wsX8_whose) Bd.pre
  have hown : s.vm.findClass RX8 = some m.cls := findClass_of_methodNamed Bd.named
  have hlocks := Bd.notSynchronized
  have hx := Bd.exec
  have hb := Bd.bytes
  have hr := Bd.returns
  have C : CallFix p m c cX8_whose 3 s _ wsX8_whose RX8 := ⟨hx, hb, hml, hown, hts⟩
  obtain ⟨hK, hN⟩ := id G
  subst hsz
  have hD := hD0.self (sz := s.heap.size)
  generalize hAe : va_A (wM cs a M) s.heap.size = A at hD ⊢
  have hA : ∀ q : Nat, s.heap.size ≤ q → A q := fun q h => by rw [← hAe]; exact Or.inr h
  have hS : va_S A s.heap s.heap [] := va_S.rf
  have hR : RTi p l e ({ frames := 2, cells := 0, slots := 0, locals := 43 }) s m ([.ref (a 0), .int (x1), .int (x2)] : List Value).toArray below meth c cX8_whose (MQ below (va_Qi (fun r (u : Ms) => r = res.1 ∧ u = res.2) (fun u t => va_P (dC, dI) vwCl ((fun u : Ms => (wM cs a u)) u) t.heap ∧ va_D A ((fun u : Ms => (wM cs a u)) u)) A) ([.ref (a 0), .int (x1), .int (x2)] : List Value).toArray s 0 0 A) (dC, dI) A (fun u : Ms => (wM cs a u)) res := fun H locs pc ls r u dd h hP hD hS => W.iret hx hb hr (fun t ht hW => ⟨⟨r, u, rfl, by cases h; exact ⟨rfl, rfl⟩, by rw [ht]; exact hP, hD⟩, hS.F ht⟩) hS.2.2 dd
  have hl := lv_entry ([.ref (a 0), .int (x1), .int (x2)]) (n := 3) (Nat.le_of_ble_eq_true rfl)
  rw [lg_entry_eq]
  generalize (lg_sl ([.ref (a 0), .int (x1), .int (x2)]) ++ List.replicate (3 - (lg_sl ([.ref (a 0), .int (x1), .int (x2)])).length) Slot.unset).toArray = ls at hl ⊢
  have hl : lv_has ls 3 [(0, .ref (a 0)), (1, .int (x1)), (2, .int (x2))] := hl
  unfold f_X8_whose at hf
  refine lv_aload_n hx hb dX8_whose_0 rfl (lv_at hl 0 rfl) ?_
  refine lv_iload_n hx hb dX8_whose_1 rfl (lv_at hl 1 rfl) ?_
  obtain ⟨r2, hr2, hf⟩ := bn_e hf
  have hPc := hP.sub (ws' := (wM cs a M)) [0, 1, 2, 3, 4, 5, 6, 7, 8, 9, 10, 11] rfl
  refine vp_callSi (W.runV (As := [.int (x1)]) (rest := []) C (c_X8_isPerson l dC dI cs a M x1 r2 hr2) (cwV 1 hts gX8_whose_X8_isPerson rfl rfl rfl (by decide +kernel) ⟨Nat.le_of_ble_eq_true rfl, Nat.le_of_ble_eq_true rfl⟩) ⟨(fun a U g mk q => ⟨q.1, q.2.1, GE.calling q.2.2⟩), va_recv hK hPc (ci := 8) (q0 := 0) rfl rfl, (fun U hU hW => ⟨rfl, by rw [hU]; exact hPc, GE.warm hW G⟩)⟩ rfl rfl hl.1 rfl (lv_room (Nat.le_of_ble_eq_true rfl)) dX8_whose_2 ⟨Nat.le_of_ble_eq_true rfl, Nat.le_of_ble_eq_true rfl⟩) (fun qr2 hqr2 => ?_)
  obtain ⟨hqr2, hnr2⟩ := hqr2
  obtain rfl := hqr2.symm
  refine lv_if_eq (tgt := 33) hx hb dX8_whose_5 (by decide) (fun c1 => ?_) (fun c1 => ?_)
  · replace hf := it_t c1 hf
    exact b_X8_whose_33 C G hA hR M _ _ _ (lv_sub hl [0] rfl) hP hD hS hf
  · replace hf := it_f c1 hf
    refine lv_iload_n hx hb dX8_whose_8 rfl (lv_at hl 2 rfl) ?_
    refine lv_iconst (v := 0) hx hb dX8_whose_9 (by decide) ?_
    refine lv_iconst (v := 2) hx hb dX8_whose_10 (by decide) ?_
    obtain ⟨r11, hr11, hf⟩ := bn_e hf
    have hPc := hP.sub (ws' := ([] : va_W)) [] rfl
    refine vp_callSi (W.runS (As := [.int (x2), .int ((0 : Int32)), .int ((2 : Int32))]) (rest := []) C (c_X8_in l dC dI cs x2 (0 : Int32) (2 : Int32) r11 hr11) (va_cwS 3 hts gX8_whose_X8_in rfl rfl rfl (by decide +kernel) ⟨Nat.le_of_ble_eq_true rfl, Nat.le_of_ble_eq_true rfl⟩) ⟨(fun a U g mk q => ⟨q.1, q.2.1, GE.calling q.2.2⟩), (fun U hU hW => ⟨rfl, by rw [hU]; exact hPc, GE.warm hW G⟩)⟩ rfl rfl hl.1 rfl (lv_room (Nat.le_of_ble_eq_true rfl)) dX8_whose_11 ⟨Nat.le_of_ble_eq_true rfl, Nat.le_of_ble_eq_true rfl⟩) (fun qr11 hqr11 => ?_)
    obtain ⟨hqr11, hnr11⟩ := hqr11
    obtain rfl := hqr11.symm
    refine lv_if_eq (tgt := 33) hx hb dX8_whose_14 (by decide) (fun c2 => ?_) (fun c2 => ?_)
    · replace hf := it_t c2 hf
      exact b_X8_whose_33 C G hA hR M _ _ _ (lv_sub hl [0] rfl) hP hD hS hf
    · replace hf := it_f c2 hf
      refine lv_aload_n hx hb dX8_whose_17 rfl (lv_at hl 0 rfl) ?_
      refine va_get (D := (dC, dI)) (ci := 8) (v := .ref (a 1)) (C := RX8) (T := TX8) (N := 20) hx hb hts in_X8_whose_X8 hown hK hP 0 rfl rfl 0 (by decide) (hts (.fieldLink RX8 7 "BackLoansModel" "now" "[I") (by decide +kernel)) (fun _ h9 => h9) rfl dX8_whose_18 ?_
      refine lv_bipush (v := 8) hx hb dX8_whose_21 (by decide) ?_
      refine lv_iconst (v := 3) hx hb dX8_whose_23 (by decide) ?_
      refine lv_iload_n hx hb dX8_whose_24 rfl (lv_at hl 1 rfl) ?_
      refine lv_imul hx hb dX8_whose_25 ?_
      refine lv_iadd hx hb dX8_whose_26 ?_
      refine lv_iload_n hx hb dX8_whose_27 rfl (lv_at hl 2 rfl) ?_
      refine lv_iadd hx hb dX8_whose_28 ?_
      obtain ⟨hi3, hf⟩ := gi_e hf
      refine va_iald hx hb hK hP 1 0 rfl rfl hi3 dX8_whose_29 ?_
      refine lv_goto (tgt := 37) hx hb dX8_whose_30 (by decide) ?_
      exact hR _ _ _ _ _ _ dX8_whose_37 hf hP hD hS

theorem in_X8_about_X8 : ∀ w ∈ wsX80, w ∈ wsX8_about := by decide +kernel
def f_X8_about_17 (M : Ms)  : Option (Int32 × Ms) :=
  bn (f_X8_bad M) fun r18 =>
  some (r18.1, r18.2)
set_option maxHeartbeats 4000000 in
set_option maxRecDepth 100000 in
theorem b_X8_about_17 {p : Program} {l : Launch} {e : Env} {s : State} {m : MethodId} {args : Array Value} {below : List Frame} {meth : Method} {c : Code} {Q : State → Prop} {dC : Nat → ClassId} {dI : Nat → Nat → Nat} {cs : Nat → ClassId} {A : Nat → Prop} {a : Nat → Nat} {res : Int32 × Ms} (C : CallFix p m c cX8_about 3 s args wsX8_about RX8) (G : GE dC dI cs s) (hA : ∀ q : Nat, s.heap.size ≤ q → A q) (hR : RTi p l e ({ frames := 2, cells := 0, slots := 0, locals := 43 }) s m args below meth c cX8_about Q (dC, dI) A (fun u : Ms => (wM cs a u)) res) (M : Ms)   (H : Heap) (locs : List Loc) (ls : Array Slot) (hl : lv_has ls 3 [(0, .ref (a 0))]) (hP : va_P (dC, dI) vwCl (wM cs a M) H) (hD : va_D A (wM cs a M)) (hS : va_S A s.heap H locs) (hf : f_X8_about_17 M = some res) : W p l e ({ frames := 2, cells := 0, slots := 0, locals := 43 }) s m args below meth c H locs 0 0 Q (F0 m 17 ls []) := by
  obtain ⟨hx, hb, hml, hown, hts⟩ := id C
  obtain ⟨hK, hN⟩ := id G
  unfold f_X8_about_17 at hf
  refine lv_aload_n hx hb dX8_about_17 rfl (lv_at hl 0 rfl) ?_
  obtain ⟨r18, hr18, hf⟩ := bn_e hf
  have hPc := hP.sub (ws' := (wM cs a M)) [0, 1, 2, 3, 4, 5, 6, 7, 8, 9, 10, 11] rfl
  have hDc := hD.sub (ws' := (wM cs a M)) [0, 1, 2, 3, 4, 5, 6, 7, 8, 9, 10, 11] (by decide) rfl
  have hFc := va_free (wc := (wM cs a M)) hD hS hA [0, 1, 2, 3, 4, 5, 6, 7, 8, 9, 10, 11] rfl
  refine va_calli (va_runV (As := []) (rest := []) C (c_X8_bad l dC dI cs a H.size M r18 hr18) (cwV 0 hts gX8_about_X8_bad rfl rfl rfl (by decide +kernel) ⟨Nat.le_of_ble_eq_true rfl, Nat.le_of_ble_eq_true rfl⟩) ⟨(fun a U g mk q => ⟨q.1, q.2.1, q.2.2.1, GE.calling q.2.2.2.1, q.2.2.2.2⟩), va_recv hK hPc (ci := 8) (q0 := 0) rfl rfl, (fun U hU hW => ⟨rfl, by rw [hU], by rw [hU]; exact hPc, GE.warm hW G, hDc.weaken (fun _ _ _ _ => trivial)⟩)⟩ rfl rfl hl.1 rfl (lv_room (Nat.le_of_ble_eq_true rfl)) dX8_about_18 ⟨Nat.le_of_ble_eq_true rfl, Nat.le_of_ble_eq_true rfl⟩) hS (fun q _ h => hFc q h) hFc (fun q u t H1 locs ht hvm hw hB hz1 hk1 hS => ?_)
  obtain ⟨rfl, rfl⟩ := hw
  obtain ⟨hP1, hD1⟩ := hB
  rw [ht] at hP1
  obtain ⟨hP, hD⟩ := va_join (wr := []) (w1 := (wM cs a r18.2)) hP hD [0, 1, 2, 3, 4, 5, 6, 7, 8, 9, 10, 11] [] rfl rfl (by decide) (by decide) hk1 hFc hP1 hD1
  generalize H1 = H at hP hS ⊢
  have hP := hP.sub (ws' := (wM cs a r18.2)) [0, 1, 2, 3, 4, 5, 6, 7, 8, 9, 10, 11] rfl
  have hD := hD.sub (ws' := (wM cs a r18.2)) [0, 1, 2, 3, 4, 5, 6, 7, 8, 9, 10, 11] (by decide) rfl
  exact hR _ _ _ _ _ _ dX8_about_21 hf hP hD hS
def f_X8_about (x1 : Int32) (x2 : Int32) (M : Ms) : Option (Int32 × Ms) :=
  bn (f_X8_isLoan x1 M) fun r2 =>
  if r2 = 0 then (
    f_X8_about_17 M
  ) else (
    bn (f_X8_in x2 (0 : Int32) (5 : Int32)) fun r11 =>
    if r11 = 0 then (
      f_X8_about_17 M
    ) else (
      if x2 = (5 : Int32) then (
        bn (f_X8_whole x1 (M.2.2 0)) fun r32 =>
        some (r32, M)
      ) else (
        gi ((((26 : Int32) + ((5 : Int32) * x1)) + x2)) 362 <|
        some (((M.2.2 0) ((((26 : Int32) + ((5 : Int32) * x1)) + x2)).toNatClampNeg), M)
      )
    )
  )
set_option maxHeartbeats 4000000 in
set_option maxRecDepth 100000 in
theorem c_X8_about (l : Launch) (dC : Nat → ClassId) (dI : Nat → Nat → Nat) (cs : Nat → ClassId) (a : Nat → Nat) (sz : Nat) (M : Ms) (x1 : Int32) (x2 : Int32) (res : Int32 × Ms) (hf : f_X8_about x1 x2 M = some res) : Met l yX8_about wsX8_about ({ frames := 2, cells := 0, slots := 0, locals := 43 }) (va_Pc [.ref (a 0), .int (x1), .int (x2)] (fun U => U.heap.size = sz ∧ va_P (dC, dI) vwCl (wM cs a M) U.heap ∧ GE dC dI cs U ∧ va_D (fun _ => True) (wM cs a M))) (va_Qi (fun r (u : Ms) => r = res.1 ∧ u = res.2) (fun u t => va_P (dC, dI) vwCl ((fun u : Ms => (wM cs a u)) u) t.heap ∧ va_D (va_A (wM cs a M) sz) ((fun u : Ms => (wM cs a u)) u)) (va_A (wM cs a M) sz)) 0 0 (va_A (wM cs a M) sz) := by
  refine Met.ofW (cc := cX8_about) (maxL := 3) (ret := (some .int)) (by decide) rfl ?_
  intro p e s m args below meth c s₁ Bd hml hv
  obtain ⟨rfl, hsz, hP, G, hD0⟩ := hv
  have hts := atoms_spec (ws := wsX8_about) Bd.pre
  have hown : s.vm.findClass RX8 = some m.cls := findClass_of_methodNamed Bd.named
  have hlocks := Bd.notSynchronized
  have hx := Bd.exec
  have hb := Bd.bytes
  have hr := Bd.returns
  have C : CallFix p m c cX8_about 3 s _ wsX8_about RX8 := ⟨hx, hb, hml, hown, hts⟩
  obtain ⟨hK, hN⟩ := id G
  subst hsz
  have hD := hD0.self (sz := s.heap.size)
  generalize hAe : va_A (wM cs a M) s.heap.size = A at hD ⊢
  have hA : ∀ q : Nat, s.heap.size ≤ q → A q := fun q h => by rw [← hAe]; exact Or.inr h
  have hS : va_S A s.heap s.heap [] := va_S.rf
  have hR : RTi p l e ({ frames := 2, cells := 0, slots := 0, locals := 43 }) s m ([.ref (a 0), .int (x1), .int (x2)] : List Value).toArray below meth c cX8_about (MQ below (va_Qi (fun r (u : Ms) => r = res.1 ∧ u = res.2) (fun u t => va_P (dC, dI) vwCl ((fun u : Ms => (wM cs a u)) u) t.heap ∧ va_D A ((fun u : Ms => (wM cs a u)) u)) A) ([.ref (a 0), .int (x1), .int (x2)] : List Value).toArray s 0 0 A) (dC, dI) A (fun u : Ms => (wM cs a u)) res := fun H locs pc ls r u dd h hP hD hS => W.iret hx hb hr (fun t ht hW => ⟨⟨r, u, rfl, by cases h; exact ⟨rfl, rfl⟩, by rw [ht]; exact hP, hD⟩, hS.F ht⟩) hS.2.2 dd
  have hl := lv_entry ([.ref (a 0), .int (x1), .int (x2)]) (n := 3) (Nat.le_of_ble_eq_true rfl)
  rw [lg_entry_eq]
  generalize (lg_sl ([.ref (a 0), .int (x1), .int (x2)]) ++ List.replicate (3 - (lg_sl ([.ref (a 0), .int (x1), .int (x2)])).length) Slot.unset).toArray = ls at hl ⊢
  have hl : lv_has ls 3 [(0, .ref (a 0)), (1, .int (x1)), (2, .int (x2))] := hl
  unfold f_X8_about at hf
  refine lv_aload_n hx hb dX8_about_0 rfl (lv_at hl 0 rfl) ?_
  refine lv_iload_n hx hb dX8_about_1 rfl (lv_at hl 1 rfl) ?_
  obtain ⟨r2, hr2, hf⟩ := bn_e hf
  have hPc := hP.sub (ws' := (wM cs a M)) [0, 1, 2, 3, 4, 5, 6, 7, 8, 9, 10, 11] rfl
  refine vp_callSi (W.runV (As := [.int (x1)]) (rest := []) C (c_X8_isLoan l dC dI cs a M x1 r2 hr2) (cwV 1 hts gX8_about_X8_isLoan rfl rfl rfl (by decide +kernel) ⟨Nat.le_of_ble_eq_true rfl, Nat.le_of_ble_eq_true rfl⟩) ⟨(fun a U g mk q => ⟨q.1, q.2.1, GE.calling q.2.2⟩), va_recv hK hPc (ci := 8) (q0 := 0) rfl rfl, (fun U hU hW => ⟨rfl, by rw [hU]; exact hPc, GE.warm hW G⟩)⟩ rfl rfl hl.1 rfl (lv_room (Nat.le_of_ble_eq_true rfl)) dX8_about_2 ⟨Nat.le_of_ble_eq_true rfl, Nat.le_of_ble_eq_true rfl⟩) (fun qr2 hqr2 => ?_)
  obtain ⟨hqr2, hnr2⟩ := hqr2
  obtain rfl := hqr2.symm
  refine lv_if_eq (tgt := 17) hx hb dX8_about_5 (by decide) (fun c1 => ?_) (fun c1 => ?_)
  · replace hf := it_t c1 hf
    exact b_X8_about_17 C G hA hR M _ _ _ (lv_sub hl [0] rfl) hP hD hS hf
  · replace hf := it_f c1 hf
    refine lv_iload_n hx hb dX8_about_8 rfl (lv_at hl 2 rfl) ?_
    refine lv_iconst (v := 0) hx hb dX8_about_9 (by decide) ?_
    refine lv_iconst (v := 5) hx hb dX8_about_10 (by decide) ?_
    obtain ⟨r11, hr11, hf⟩ := bn_e hf
    have hPc := hP.sub (ws' := ([] : va_W)) [] rfl
    refine vp_callSi (W.runS (As := [.int (x2), .int ((0 : Int32)), .int ((5 : Int32))]) (rest := []) C (c_X8_in l dC dI cs x2 (0 : Int32) (5 : Int32) r11 hr11) (va_cwS 3 hts gX8_about_X8_in rfl rfl rfl (by decide +kernel) ⟨Nat.le_of_ble_eq_true rfl, Nat.le_of_ble_eq_true rfl⟩) ⟨(fun a U g mk q => ⟨q.1, q.2.1, GE.calling q.2.2⟩), (fun U hU hW => ⟨rfl, by rw [hU]; exact hPc, GE.warm hW G⟩)⟩ rfl rfl hl.1 rfl (lv_room (Nat.le_of_ble_eq_true rfl)) dX8_about_11 ⟨Nat.le_of_ble_eq_true rfl, Nat.le_of_ble_eq_true rfl⟩) (fun qr11 hqr11 => ?_)
    obtain ⟨hqr11, hnr11⟩ := hqr11
    obtain rfl := hqr11.symm
    refine lv_if_ne (tgt := 22) hx hb dX8_about_14 (by decide) (fun c2 => ?_) (fun c2 => ?_)
    · replace hf := it_f c2 hf
      refine lv_iload_n hx hb dX8_about_22 rfl (lv_at hl 2 rfl) ?_
      refine lv_iconst (v := 5) hx hb dX8_about_23 (by decide) ?_
      refine lv_icmp_ne (tgt := 38) hx hb dX8_about_24 (by decide) (fun c3 => ?_) (fun c3 => ?_)
      · replace hf := it_f c3 hf
        refine lv_aload_n hx hb dX8_about_38 rfl (lv_at hl 0 rfl) ?_
        refine va_get (D := (dC, dI)) (ci := 8) (v := .ref (a 1)) (C := RX8) (T := TX8) (N := 20) hx hb hts in_X8_about_X8 hown hK hP 0 rfl rfl 0 (by decide) (hts (.fieldLink RX8 7 "BackLoansModel" "now" "[I") (by decide +kernel)) (fun _ h9 => h9) rfl dX8_about_39 ?_
        refine lv_bipush (v := 26) hx hb dX8_about_42 (by decide) ?_
        refine lv_iconst (v := 5) hx hb dX8_about_44 (by decide) ?_
        refine lv_iload_n hx hb dX8_about_45 rfl (lv_at hl 1 rfl) ?_
        refine lv_imul hx hb dX8_about_46 ?_
        refine lv_iadd hx hb dX8_about_47 ?_
        refine lv_iload_n hx hb dX8_about_48 rfl (lv_at hl 2 rfl) ?_
        refine lv_iadd hx hb dX8_about_49 ?_
        obtain ⟨hi4, hf⟩ := gi_e hf
        refine va_iald hx hb hK hP 1 0 rfl rfl hi4 dX8_about_50 ?_
        exact hR _ _ _ _ _ _ dX8_about_51 hf hP hD hS
      · replace hf := it_t c3 hf
        refine lv_aload_n hx hb dX8_about_27 rfl (lv_at hl 0 rfl) ?_
        refine va_get (D := (dC, dI)) (ci := 8) (v := .ref (a 1)) (C := RX8) (T := TX8) (N := 20) hx hb hts in_X8_about_X8 hown hK hP 0 rfl rfl 0 (by decide) (hts (.fieldLink RX8 7 "BackLoansModel" "now" "[I") (by decide +kernel)) (fun _ h9 => h9) rfl dX8_about_28 ?_
        refine lv_iload_n hx hb dX8_about_31 rfl (lv_at hl 1 rfl) ?_
        obtain ⟨r32, hr32, hf⟩ := bn_e hf
        have hPc := hP.sub (ws' := (wA cs (a 1) 362 (M.2.2 0))) [1] rfl
        refine vp_callSi (W.runS (As := [.ref (a 1), .int (x1)]) (rest := []) C (c_X8_whole l dC dI cs (a 1) (M.2.2 0) x1 r32 hr32) (va_cwS 2 hts gX8_about_X8_whole rfl rfl rfl (by decide +kernel) ⟨Nat.le_of_ble_eq_true rfl, Nat.le_of_ble_eq_true rfl⟩) ⟨(fun a U g mk q => ⟨q.1, q.2.1, GE.calling q.2.2⟩), (fun U hU hW => ⟨rfl, by rw [hU]; exact hPc, GE.warm hW G⟩)⟩ rfl rfl hl.1 rfl (lv_room (Nat.le_of_ble_eq_true rfl)) dX8_about_32 ⟨Nat.le_of_ble_eq_true rfl, Nat.le_of_ble_eq_true rfl⟩) (fun qr32 hqr32 => ?_)
        obtain rfl := hqr32.symm
        refine lv_goto (tgt := 51) hx hb dX8_about_35 (by decide) ?_
        exact hR _ _ _ _ _ _ dX8_about_51 hf hP hD hS
    · replace hf := it_t c2 hf
      exact b_X8_about_17 C G hA hR M _ _ _ (lv_sub hl [0] rfl) hP hD hS hf

theorem in_X8_tries_X8 : ∀ w ∈ wsX80, w ∈ wsX8_tries := by decide +kernel
def f_X8_tries  (M : Ms) : Option Ms :=
  bn (f_X8_copy 362 362 (0 : Int32) (0 : Int32) (M.2.2 0) (M.2.2 1)) fun r10 =>
  lett ((M.1, M.2.1, va_up M.2.2 1 (r10))) fun M_10 =>
  some M_10
set_option maxHeartbeats 4000000 in
set_option maxRecDepth 100000 in
theorem c_X8_tries (l : Launch) (dC : Nat → ClassId) (dI : Nat → Nat → Nat) (cs : Nat → ClassId) (a : Nat → Nat) (sz : Nat) (M : Ms)  (res : Ms) (hf : f_X8_tries M = some res) : Met l yX8_tries wsX8_tries ({ frames := 1, cells := 0, slots := 0, locals := 24 }) (va_Pc [.ref (a 0)] (fun U => U.heap.size = sz ∧ va_P (dC, dI) vwCl (wM cs a M) U.heap ∧ GE dC dI cs U ∧ va_D (fun _ => True) (wM cs a M))) (va_Qv (fun u : Ms => u = res) (fun u t => va_P (dC, dI) vwCl ((fun u : Ms => (wM cs a u)) u) t.heap ∧ va_D (va_A (wM cs a M) sz) ((fun u : Ms => (wM cs a u)) u)) (va_A (wM cs a M) sz)) 0 0 (va_A (wM cs a M) sz) := by
  refine Met.ofW (cc := cX8_tries) (maxL := 1) (ret := none) (by decide) rfl ?_
  intro p e s m args below meth c s₁ Bd hml hv
  obtain ⟨rfl, hsz, hP, G, hD0⟩ := hv
  have hts := atoms_spec (ws := wsX8_tries) Bd.pre
  have hown : s.vm.findClass RX8 = some m.cls := findClass_of_methodNamed Bd.named
  have hlocks := Bd.notSynchronized
  have hx := Bd.exec
  have hb := Bd.bytes
  have hr := Bd.returns
  have C : CallFix p m c cX8_tries 1 s _ wsX8_tries RX8 := ⟨hx, hb, hml, hown, hts⟩
  obtain ⟨hK, hN⟩ := id G
  subst hsz
  have hD := hD0.self (sz := s.heap.size)
  generalize hAe : va_A (wM cs a M) s.heap.size = A at hD ⊢
  have hA : ∀ q : Nat, s.heap.size ≤ q → A q := fun q h => by rw [← hAe]; exact Or.inr h
  have hS : va_S A s.heap s.heap [] := va_S.rf
  have hR : RTv p l e ({ frames := 1, cells := 0, slots := 0, locals := 24 }) s m ([.ref (a 0)] : List Value).toArray below meth c cX8_tries (MQ below (va_Qv (fun u : Ms => u = res) (fun u t => va_P (dC, dI) vwCl ((fun u : Ms => (wM cs a u)) u) t.heap ∧ va_D A ((fun u : Ms => (wM cs a u)) u)) A) ([.ref (a 0)] : List Value).toArray s 0 0 A) (dC, dI) A (fun u : Ms => (wM cs a u)) res := fun H locs pc ls u dd h hP hD hS => W.vret hx hb hr (fun t ht hW => ⟨⟨u, rfl, by cases h; rfl, by rw [ht]; exact hP, hD⟩, hS.F ht⟩) hS.2.2 dd
  have hl := lv_entry ([.ref (a 0)]) (n := 1) (Nat.le_of_ble_eq_true rfl)
  rw [lg_entry_eq]
  generalize (lg_sl ([.ref (a 0)]) ++ List.replicate (1 - (lg_sl ([.ref (a 0)])).length) Slot.unset).toArray = ls at hl ⊢
  have hl : lv_has ls 1 [(0, .ref (a 0))] := hl
  unfold f_X8_tries at hf
  refine lv_aload_n hx hb dX8_tries_0 rfl (lv_at hl 0 rfl) ?_
  refine va_get (D := (dC, dI)) (ci := 8) (v := .ref (a 1)) (C := RX8) (T := TX8) (N := 20) hx hb hts in_X8_tries_X8 hown hK hP 0 rfl rfl 0 (by decide) (hts (.fieldLink RX8 7 "BackLoansModel" "now" "[I") (by decide +kernel)) (fun _ h9 => h9) rfl dX8_tries_1 ?_
  refine lv_iconst (v := 0) hx hb dX8_tries_4 (by decide) ?_
  refine lv_aload_n hx hb dX8_tries_5 rfl (lv_at hl 0 rfl) ?_
  refine va_get (D := (dC, dI)) (ci := 8) (v := .ref (a 2)) (C := RX8) (T := TX8) (N := 20) hx hb hts in_X8_tries_X8 hown hK hP 0 rfl rfl 1 (by decide) (hts (.fieldLink RX8 13 "BackLoansModel" "tried" "[I") (by decide +kernel)) (fun _ h9 => h9) rfl dX8_tries_6 ?_
  refine lv_iconst (v := 0) hx hb dX8_tries_9 (by decide) ?_
  obtain ⟨r10, hr10, hf⟩ := bn_e hf
  have hPc := hP.sub (ws' := (wA cs (a 1) 362 (M.2.2 0) ++ wA cs (a 2) 362 (M.2.2 1))) [1, 2] rfl
  have hDc := hD.sub (ws' := (wA cs (a 1) 362 (M.2.2 0) ++ wA cs (a 2) 362 (M.2.2 1))) [1, 2] (by decide) rfl
  have hFc := va_free (wc := (wA cs (a 1) 362 (M.2.2 0) ++ wA cs (a 2) 362 (M.2.2 1))) hD hS hA [1, 2] rfl
  refine va_callv (va_runS (As := [.ref (a 1), .int ((0 : Int32)), .ref (a 2), .int ((0 : Int32))]) (rest := []) C (c_X8_copy l dC dI cs (a 1) (a 2) 362 362 s.heap.size (M.2.2 0) (M.2.2 1) (0 : Int32) (0 : Int32) r10 hr10) (va_cwS 4 hts gX8_tries_X8_copy rfl rfl rfl (by decide +kernel) ⟨Nat.le_of_ble_eq_true rfl, Nat.le_of_ble_eq_true rfl⟩) ⟨(fun a U g mk q => ⟨q.1, q.2.1, q.2.2.1, GE.calling q.2.2.2.1, q.2.2.2.2⟩), (fun U hU hW => ⟨rfl, by rw [hU], by rw [hU]; exact hPc, GE.warm hW G, hDc.weaken (fun _ _ _ _ => trivial)⟩)⟩ rfl rfl hl.1 rfl (lv_room (Nat.le_of_ble_eq_true rfl)) dX8_tries_10 ⟨Nat.le_of_ble_eq_true rfl, Nat.le_of_ble_eq_true rfl⟩) hS (fun q _ h => hFc q h) hFc (fun u t H1 locs ht hvm hw hB hz1 hk1 hS => ?_)
  obtain rfl := hw.symm
  obtain ⟨hP1, hD1⟩ := hB
  rw [ht] at hP1
  obtain ⟨hP, hD⟩ := va_join (wr := [0, 3, 4, 5, 6, 7, 8, 9, 10, 11].filterMap (fun i => ((wM cs a M))[i]?)) (w1 := (wA cs (a 1) 362 (M.2.2 0) ++ wA cs (a 2) 362 r10)) hP hD [1, 2] [0, 3, 4, 5, 6, 7, 8, 9, 10, 11] rfl rfl (by decide) (by decide) hk1 hFc hP1 hD1
  generalize H1 = H at hP hS ⊢
  have hP := hP.sub (ws' := (wM cs a (M.1, M.2.1, va_up M.2.2 1 (r10)))) [0, 10, 11, 1, 2, 3, 4, 5, 6, 7, 8, 9] rfl
  have hD := hD.sub (ws' := (wM cs a (M.1, M.2.1, va_up M.2.2 1 (r10)))) [0, 10, 11, 1, 2, 3, 4, 5, 6, 7, 8, 9] (by decide) rfl
  obtain ⟨M_10, hP, hD, hf⟩ := st_nm (ws := fun M_10 : Ms => (wM cs a M_10)) ((M.1, M.2.1, va_up M.2.2 1 (r10))) hP hD hf
  exact hR _ _ _ _ _ dX8_tries_13 hf hP hD hS

theorem in_X8_goes_X8 : ∀ w ∈ wsX80, w ∈ wsX8_goes := by decide +kernel
def f_X8_goes_6 (x1 : Int32) (x2 : Int32) (M : Ms) (K6 : Int32 → Ms → Option Ms) : Option Ms :=
  if x1 ≤ x2 then (
    some M
  ) else (
    bn (f_X8_month (0 : Int32) (M.2.2 1)) fun r16 =>
    lett ((M.1, M.2.1, va_up M.2.2 1 (r16.2))) fun M_16 =>
    lett (x2 + 1) fun x2_20 =>
    K6 x2_20 M_16
  )
set_option maxHeartbeats 4000000 in
set_option maxRecDepth 100000 in
theorem b_X8_goes_6 {p : Program} {l : Launch} {e : Env} {s : State} {m : MethodId} {args : Array Value} {below : List Frame} {meth : Method} {c : Code} {Q : State → Prop} {dC : Nat → ClassId} {dI : Nat → Nat → Nat} {cs : Nat → ClassId} {A : Nat → Prop} {a : Nat → Nat} {res : Ms} (C : CallFix p m c cX8_goes 3 s args wsX8_goes RX8) (G : GE dC dI cs s) (hA : ∀ q : Nat, s.heap.size ≤ q → A q) (hR : RTv p l e ({ frames := 3, cells := 0, slots := 0, locals := 70 }) s m args below meth c cX8_goes Q (dC, dI) A (fun u : Ms => (wM cs a u)) res) (x1 : Int32) (x2 : Int32) (M : Ms) {K6 : Int32 → Ms → Option Ms} (hK6 : ∀ (x2 : Int32) (M : Ms) (H : Heap) (locs : List Loc) (ls : Array Slot), lv_has ls 3 [(0, .ref (a 0)), (1, .int (x1)), (2, .int (x2))] → va_P (dC, dI) vwCl (wM cs a M) H → va_D A (wM cs a M) → va_S A s.heap H locs → K6 x2 M = some res → W p l e ({ frames := 3, cells := 0, slots := 0, locals := 70 }) s m args below meth c H locs 0 0 Q (F0 m 6 ls [])) (H : Heap) (locs : List Loc) (ls : Array Slot) (hl : lv_has ls 3 [(0, .ref (a 0)), (1, .int (x1)), (2, .int (x2))]) (hP : va_P (dC, dI) vwCl (wM cs a M) H) (hD : va_D A (wM cs a M)) (hS : va_S A s.heap H locs) (hf : f_X8_goes_6 x1 x2 M K6 = some res) : W p l e ({ frames := 3, cells := 0, slots := 0, locals := 70 }) s m args below meth c H locs 0 0 Q (F0 m 6 ls []) := by
  obtain ⟨hx, hb, hml, hown, hts⟩ := id C
  obtain ⟨hK, hN⟩ := id G
  unfold f_X8_goes_6 at hf
  refine lv_iload_n hx hb dX8_goes_6 rfl (lv_at hl 2 rfl) ?_
  refine lv_iload_n hx hb dX8_goes_7 rfl (lv_at hl 1 rfl) ?_
  refine lv_icmp_ge (tgt := 26) hx hb dX8_goes_8 (by decide) (fun c1 => ?_) (fun c1 => ?_)
  · replace hf := it_t c1 hf
    exact hR _ _ _ _ _ dX8_goes_26 hf hP hD hS
  · replace hf := it_f c1 hf
    refine lv_aload_n hx hb dX8_goes_11 rfl (lv_at hl 0 rfl) ?_
    refine va_get (D := (dC, dI)) (ci := 8) (v := .ref (a 2)) (C := RX8) (T := TX8) (N := 20) hx hb hts in_X8_goes_X8 hown hK hP 0 rfl rfl 1 (by decide) (hts (.fieldLink RX8 13 "BackLoansModel" "tried" "[I") (by decide +kernel)) (fun _ h9 => h9) rfl dX8_goes_12 ?_
    refine lv_iconst (v := 0) hx hb dX8_goes_15 (by decide) ?_
    obtain ⟨r16, hr16, hf⟩ := bn_e hf
    have hPc := hP.sub (ws' := (wA cs (a 2) 362 (M.2.2 1))) [2] rfl
    have hDc := hD.sub (ws' := (wA cs (a 2) 362 (M.2.2 1))) [2] (by decide) rfl
    have hFc := va_free (wc := (wA cs (a 2) 362 (M.2.2 1))) hD hS hA [2] rfl
    refine va_calli (va_runS (As := [.ref (a 2), .int ((0 : Int32))]) (rest := []) C (c_X8_month l dC dI cs (a 2) H.size (M.2.2 1) (0 : Int32) r16 hr16) (va_cwS 2 hts gX8_goes_X8_month rfl rfl rfl (by decide +kernel) ⟨Nat.le_of_ble_eq_true rfl, Nat.le_of_ble_eq_true rfl⟩) ⟨(fun a U g mk q => ⟨q.1, q.2.1, q.2.2.1, GE.calling q.2.2.2.1, q.2.2.2.2⟩), (fun U hU hW => ⟨rfl, by rw [hU], by rw [hU]; exact hPc, GE.warm hW G, hDc.weaken (fun _ _ _ _ => trivial)⟩)⟩ rfl rfl hl.1 rfl (lv_room (Nat.le_of_ble_eq_true rfl)) dX8_goes_16 ⟨Nat.le_of_ble_eq_true rfl, Nat.le_of_ble_eq_true rfl⟩) hS (fun q _ h => hFc q h) hFc (fun q u t H1 locs ht hvm hw hB hz1 hk1 hS => ?_)
    obtain ⟨rfl, rfl⟩ := hw
    obtain ⟨hP1, hD1⟩ := hB
    rw [ht] at hP1
    obtain ⟨hP, hD⟩ := va_join (wr := [0, 1, 3, 4, 5, 6, 7, 8, 9, 10, 11].filterMap (fun i => ((wM cs a M))[i]?)) (w1 := (wA cs (a 2) 362 r16.2)) hP hD [2] [0, 1, 3, 4, 5, 6, 7, 8, 9, 10, 11] rfl rfl (by decide) (by decide) hk1 hFc hP1 hD1
    generalize H1 = H at hP hS ⊢
    have hP := hP.sub (ws' := (wM cs a (M.1, M.2.1, va_up M.2.2 1 (r16.2)))) [0, 1, 11, 2, 3, 4, 5, 6, 7, 8, 9, 10] rfl
    have hD := hD.sub (ws' := (wM cs a (M.1, M.2.1, va_up M.2.2 1 (r16.2)))) [0, 1, 11, 2, 3, 4, 5, 6, 7, 8, 9, 10] (by decide) rfl
    obtain ⟨M_16, hP, hD, hf⟩ := st_nm (ws := fun M_16 : Ms => (wM cs a M_16)) ((M.1, M.2.1, va_up M.2.2 1 (r16.2))) hP hD hf
    refine lv_pop hx hb dX8_goes_19 rfl ?_
    obtain ⟨x2_20, ex2_20⟩ : ∃ y : Int32, y = (x2 + 1) := ⟨_, rfl⟩
    replace hf := lett_s ex2_20 hf
    refine lv_iinc (v := x2_20) (lv' := [(2, .int (x2_20)), (0, .ref (a 0)), (1, .int (x1))]) hx hb dX8_goes_20 hl (k := 2) rfl (by rw [ex2_20]; rfl) (by decide) rfl (fun ls hl => ?_)
    refine lv_goto (tgt := 6) hx hb dX8_goes_23 (by decide) ?_
    exact hK6 x2_20 M_16 _ _ _ (lv_sub hl [1, 2, 0] rfl) hP hD hS hf
def l_X8_goes_6 (x1 : Int32)  (n : Nat) (x2 : Int32) (M : Ms) : Option Ms := itr (fun (k : Int32 × Ms → Option Ms) (z : Int32 × Ms) => f_X8_goes_6 x1 z.1 z.2 (fun x2 M => k (x2, M))) n (x2, M)
set_option maxHeartbeats 4000000 in
set_option maxRecDepth 100000 in
theorem w_X8_goes_6 {p : Program} {l : Launch} {e : Env} {s : State} {m : MethodId} {args : Array Value} {below : List Frame} {meth : Method} {c : Code} {Q : State → Prop} {dC : Nat → ClassId} {dI : Nat → Nat → Nat} {cs : Nat → ClassId} {A : Nat → Prop} {a : Nat → Nat} {res : Ms} (C : CallFix p m c cX8_goes 3 s args wsX8_goes RX8) (G : GE dC dI cs s) (hA : ∀ q : Nat, s.heap.size ≤ q → A q) (hR : RTv p l e ({ frames := 3, cells := 0, slots := 0, locals := 70 }) s m args below meth c cX8_goes Q (dC, dI) A (fun u : Ms => (wM cs a u)) res) (x1 : Int32)   : ∀ (n : Nat) (x2 : Int32) (M : Ms) (H : Heap) (locs : List Loc) (ls : Array Slot), lv_has ls 3 [(0, .ref (a 0)), (1, .int (x1)), (2, .int (x2))] → va_P (dC, dI) vwCl (wM cs a M) H → va_D A (wM cs a M) → va_S A s.heap H locs → l_X8_goes_6 x1 n x2 M = some res → W p l e ({ frames := 3, cells := 0, slots := 0, locals := 70 }) s m args below meth c H locs 0 0 Q (F0 m 6 ls []) := by
  intro n
  induction n with
  | zero => intro x2 M H locs ls hl hP hD hS hf; exact absurd hf (by simp [l_X8_goes_6, itr])
  | succ n ih => intro x2 M H locs ls hl hP hD hS hf; exact b_X8_goes_6 C G hA hR x1 x2 M (K6 := fun x2 M => l_X8_goes_6 x1 n x2 M) (fun x2 M H locs ls hl hP hD hS hf => ih x2 M H locs ls hl hP hD hS hf) H locs ls hl hP hD hS hf
def f_X8_goes (x1 : Int32) (M : Ms) : Option Ms :=
  bn (f_X8_tries M) fun r1 =>
  lett (0 : Int32) fun x2_5 =>
  l_X8_goes_6 x1 FU x2_5 r1
set_option maxHeartbeats 4000000 in
set_option maxRecDepth 100000 in
theorem c_X8_goes (l : Launch) (dC : Nat → ClassId) (dI : Nat → Nat → Nat) (cs : Nat → ClassId) (a : Nat → Nat) (sz : Nat) (M : Ms) (x1 : Int32) (res : Ms) (hf : f_X8_goes x1 M = some res) : Met l yX8_goes wsX8_goes ({ frames := 3, cells := 0, slots := 0, locals := 70 }) (va_Pc [.ref (a 0), .int (x1)] (fun U => U.heap.size = sz ∧ va_P (dC, dI) vwCl (wM cs a M) U.heap ∧ GE dC dI cs U ∧ va_D (fun _ => True) (wM cs a M))) (va_Qv (fun u : Ms => u = res) (fun u t => va_P (dC, dI) vwCl ((fun u : Ms => (wM cs a u)) u) t.heap ∧ va_D (va_A (wM cs a M) sz) ((fun u : Ms => (wM cs a u)) u)) (va_A (wM cs a M) sz)) 0 0 (va_A (wM cs a M) sz) := by
  refine Met.ofW (cc := cX8_goes) (maxL := 3) (ret := none) (by decide) rfl ?_
  intro p e s m args below meth c s₁ Bd hml hv
  obtain ⟨rfl, hsz, hP, G, hD0⟩ := hv
  have hts := atoms_spec (ws := wsX8_goes) Bd.pre
  have hown : s.vm.findClass RX8 = some m.cls := findClass_of_methodNamed Bd.named
  have hlocks := Bd.notSynchronized
  have hx := Bd.exec
  have hb := Bd.bytes
  have hr := Bd.returns
  have C : CallFix p m c cX8_goes 3 s _ wsX8_goes RX8 := ⟨hx, hb, hml, hown, hts⟩
  obtain ⟨hK, hN⟩ := id G
  subst hsz
  have hD := hD0.self (sz := s.heap.size)
  generalize hAe : va_A (wM cs a M) s.heap.size = A at hD ⊢
  have hA : ∀ q : Nat, s.heap.size ≤ q → A q := fun q h => by rw [← hAe]; exact Or.inr h
  have hS : va_S A s.heap s.heap [] := va_S.rf
  have hR : RTv p l e ({ frames := 3, cells := 0, slots := 0, locals := 70 }) s m ([.ref (a 0), .int (x1)] : List Value).toArray below meth c cX8_goes (MQ below (va_Qv (fun u : Ms => u = res) (fun u t => va_P (dC, dI) vwCl ((fun u : Ms => (wM cs a u)) u) t.heap ∧ va_D A ((fun u : Ms => (wM cs a u)) u)) A) ([.ref (a 0), .int (x1)] : List Value).toArray s 0 0 A) (dC, dI) A (fun u : Ms => (wM cs a u)) res := fun H locs pc ls u dd h hP hD hS => W.vret hx hb hr (fun t ht hW => ⟨⟨u, rfl, by cases h; rfl, by rw [ht]; exact hP, hD⟩, hS.F ht⟩) hS.2.2 dd
  have hl := lv_entry ([.ref (a 0), .int (x1)]) (n := 3) (Nat.le_of_ble_eq_true rfl)
  rw [lg_entry_eq]
  generalize (lg_sl ([.ref (a 0), .int (x1)]) ++ List.replicate (3 - (lg_sl ([.ref (a 0), .int (x1)])).length) Slot.unset).toArray = ls at hl ⊢
  have hl : lv_has ls 3 [(0, .ref (a 0)), (1, .int (x1))] := hl
  unfold f_X8_goes at hf
  refine lv_aload_n hx hb dX8_goes_0 rfl (lv_at hl 0 rfl) ?_
  obtain ⟨r1, hr1, hf⟩ := bn_e hf
  have hPc := hP.sub (ws' := (wM cs a M)) [0, 1, 2, 3, 4, 5, 6, 7, 8, 9, 10, 11] rfl
  have hDc := hD.sub (ws' := (wM cs a M)) [0, 1, 2, 3, 4, 5, 6, 7, 8, 9, 10, 11] (by decide) rfl
  have hFc := va_free (wc := (wM cs a M)) hD hS hA [0, 1, 2, 3, 4, 5, 6, 7, 8, 9, 10, 11] rfl
  refine va_callv (va_runV (As := []) (rest := []) C (c_X8_tries l dC dI cs a s.heap.size M r1 hr1) (cwV 0 hts gX8_goes_X8_tries rfl rfl rfl (by decide +kernel) ⟨Nat.le_of_ble_eq_true rfl, Nat.le_of_ble_eq_true rfl⟩) ⟨(fun a U g mk q => ⟨q.1, q.2.1, q.2.2.1, GE.calling q.2.2.2.1, q.2.2.2.2⟩), va_recv hK hPc (ci := 8) (q0 := 0) rfl rfl, (fun U hU hW => ⟨rfl, by rw [hU], by rw [hU]; exact hPc, GE.warm hW G, hDc.weaken (fun _ _ _ _ => trivial)⟩)⟩ rfl rfl hl.1 rfl (lv_room (Nat.le_of_ble_eq_true rfl)) dX8_goes_1 ⟨Nat.le_of_ble_eq_true rfl, Nat.le_of_ble_eq_true rfl⟩) hS (fun q _ h => hFc q h) hFc (fun u t H1 locs ht hvm hw hB hz1 hk1 hS => ?_)
  obtain rfl := hw.symm
  obtain ⟨hP1, hD1⟩ := hB
  rw [ht] at hP1
  obtain ⟨hP, hD⟩ := va_join (wr := []) (w1 := (wM cs a r1)) hP hD [0, 1, 2, 3, 4, 5, 6, 7, 8, 9, 10, 11] [] rfl rfl (by decide) (by decide) hk1 hFc hP1 hD1
  generalize H1 = H at hP hS ⊢
  have hP := hP.sub (ws' := (wM cs a r1)) [0, 1, 2, 3, 4, 5, 6, 7, 8, 9, 10, 11] rfl
  have hD := hD.sub (ws' := (wM cs a r1)) [0, 1, 2, 3, 4, 5, 6, 7, 8, 9, 10, 11] (by decide) rfl
  refine lv_iconst (v := 0) hx hb dX8_goes_4 (by decide) ?_
  refine lv_topi (fun x2_5 ex2_5 => ?_)
  replace hf := lett_s ex2_5 hf
  refine lv_istore_n (lv' := [(2, .int (x2_5)), (0, .ref (a 0)), (1, .int (x1))]) hx hb dX8_goes_5 rfl hl (by decide) rfl (fun ls hl => ?_)
  exact w_X8_goes_6 C G hA hR x1 FU x2_5 r1 _ _ _ (lv_sub hl [1, 2, 0] rfl) hP hD hS hf

def f_X8_many_32 (x1 : Int32) (x2 : Int32) (x4 : Int32) (s0 : Int32) (s1 : Int32) (tt : Nat → Int32) (K5 : Int32 → Int32 → Option Int32) : Option Int32 :=
  lett (s0 + s1) fun x3_33 =>
  lett (x4 + 1) fun x4_34 =>
  K5 x3_33 x4_34
set_option maxHeartbeats 4000000 in
set_option maxRecDepth 100000 in
theorem b_X8_many_32 {p : Program} {l : Launch} {e : Env} {s : State} {m : MethodId} {args : Array Value} {below : List Frame} {meth : Method} {c : Code} {Q : State → Prop} {dC : Nat → ClassId} {dI : Nat → Nat → Nat} {cs : Nat → ClassId} {a : Nat} {res : Int32} (C : CallFix p m c cX8_many 5 s args wsX8_many RX8) (G : GE dC dI cs s) (hR : RPi p l e ({ frames := 0, cells := 0, slots := 0, locals := 0 }) s m args below meth c cX8_many Q res) {tt : Nat → Int32} (hP : va_P (dC, dI) vwCl (wA cs a 362 tt) s.heap) (x1 : Int32) (x2 : Int32) (x4 : Int32) (s0 : Int32) (s1 : Int32) (_ : Nat → Int32) {K5 : Int32 → Int32 → Option Int32} (hK5 : ∀ (x3 : Int32) (x4 : Int32) (ls : Array Slot), lv_has ls 5 [(0, .ref a), (1, .int (x1)), (2, .int (x2)), (3, .int (x3)), (4, .int (x4))] → K5 x3 x4 = some res → W p l e ({ frames := 0, cells := 0, slots := 0, locals := 0 }) s m args below meth c s.heap [] 0 0 Q (F0 m 5 ls [])) (ls : Array Slot) (hl : lv_has ls 5 [(0, .ref a), (1, .int (x1)), (2, .int (x2)), (4, .int (x4))]) (hf : f_X8_many_32 x1 x2 x4 s0 s1 tt K5 = some res) : W p l e ({ frames := 0, cells := 0, slots := 0, locals := 0 }) s m args below meth c s.heap [] 0 0 Q (F0 m 32 ls [.int (s1), .int (s0)]) := by
  obtain ⟨hx, hb, hml, hown, hts⟩ := id C
  obtain ⟨hK, hN⟩ := id G
  unfold f_X8_many_32 at hf
  refine lv_iadd hx hb dX8_many_32 ?_
  refine lv_topi (fun x3_33 ex3_33 => ?_)
  replace hf := lett_s ex3_33 hf
  refine lv_istore_n (lv' := [(3, .int (x3_33)), (0, .ref a), (1, .int (x1)), (2, .int (x2)), (4, .int (x4))]) hx hb dX8_many_33 rfl hl (by decide) rfl (fun ls hl => ?_)
  obtain ⟨x4_34, ex4_34⟩ : ∃ y : Int32, y = (x4 + 1) := ⟨_, rfl⟩
  replace hf := lett_s ex4_34 hf
  refine lv_iinc (v := x4_34) (lv' := [(4, .int (x4_34)), (3, .int (x3_33)), (0, .ref a), (1, .int (x1)), (2, .int (x2))]) hx hb dX8_many_34 hl (k := 4) rfl (by rw [ex4_34]; rfl) (by decide) rfl (fun ls hl => ?_)
  refine lv_goto (tgt := 5) hx hb dX8_many_37 (by decide) ?_
  exact hK5 x3_33 x4_34 _ (lv_sub hl [2, 3, 4, 1, 0] rfl) hf
def f_X8_many_5 (x1 : Int32) (x2 : Int32) (x3 : Int32) (x4 : Int32) (tt : Nat → Int32) (K5 : Int32 → Int32 → Option Int32) : Option Int32 :=
  if x2 ≤ x4 then (
    some x3
  ) else (
    gi ((((26 : Int32) + ((5 : Int32) * x4)) + (3 : Int32))) 362 <|
    if (tt ((((26 : Int32) + ((5 : Int32) * x4)) + (3 : Int32))).toNatClampNeg) = x1 then (
      f_X8_many_32 x1 x2 x4 x3 (1 : Int32) tt K5
    ) else (
      f_X8_many_32 x1 x2 x4 x3 (0 : Int32) tt K5
    )
  )
set_option maxHeartbeats 4000000 in
set_option maxRecDepth 100000 in
theorem b_X8_many_5 {p : Program} {l : Launch} {e : Env} {s : State} {m : MethodId} {args : Array Value} {below : List Frame} {meth : Method} {c : Code} {Q : State → Prop} {dC : Nat → ClassId} {dI : Nat → Nat → Nat} {cs : Nat → ClassId} {a : Nat} {res : Int32} (C : CallFix p m c cX8_many 5 s args wsX8_many RX8) (G : GE dC dI cs s) (hR : RPi p l e ({ frames := 0, cells := 0, slots := 0, locals := 0 }) s m args below meth c cX8_many Q res) {tt : Nat → Int32} (hP : va_P (dC, dI) vwCl (wA cs a 362 tt) s.heap) (x1 : Int32) (x2 : Int32) (x3 : Int32) (x4 : Int32) (_ : Nat → Int32) {K5 : Int32 → Int32 → Option Int32} (hK5 : ∀ (x3 : Int32) (x4 : Int32) (ls : Array Slot), lv_has ls 5 [(0, .ref a), (1, .int (x1)), (2, .int (x2)), (3, .int (x3)), (4, .int (x4))] → K5 x3 x4 = some res → W p l e ({ frames := 0, cells := 0, slots := 0, locals := 0 }) s m args below meth c s.heap [] 0 0 Q (F0 m 5 ls [])) (ls : Array Slot) (hl : lv_has ls 5 [(0, .ref a), (1, .int (x1)), (2, .int (x2)), (3, .int (x3)), (4, .int (x4))]) (hf : f_X8_many_5 x1 x2 x3 x4 tt K5 = some res) : W p l e ({ frames := 0, cells := 0, slots := 0, locals := 0 }) s m args below meth c s.heap [] 0 0 Q (F0 m 5 ls []) := by
  obtain ⟨hx, hb, hml, hown, hts⟩ := id C
  obtain ⟨hK, hN⟩ := id G
  unfold f_X8_many_5 at hf
  refine lv_iload hx hb dX8_many_5 (lv_at hl 4 rfl) ?_
  refine lv_iload_n hx hb dX8_many_7 rfl (lv_at hl 2 rfl) ?_
  refine lv_icmp_ge (tgt := 40) hx hb dX8_many_8 (by decide) (fun c1 => ?_) (fun c1 => ?_)
  · replace hf := it_t c1 hf
    refine lv_iload_n hx hb dX8_many_40 rfl (lv_at hl 3 rfl) ?_
    exact hR _ _ _ dX8_many_41 hf
  · replace hf := it_f c1 hf
    refine lv_iload_n hx hb dX8_many_11 rfl (lv_at hl 3 rfl) ?_
    refine lv_aload_n hx hb dX8_many_12 rfl (lv_at hl 0 rfl) ?_
    refine lv_bipush (v := 26) hx hb dX8_many_13 (by decide) ?_
    refine lv_iconst (v := 5) hx hb dX8_many_15 (by decide) ?_
    refine lv_iload hx hb dX8_many_16 (lv_at hl 4 rfl) ?_
    refine lv_imul hx hb dX8_many_18 ?_
    refine lv_iadd hx hb dX8_many_19 ?_
    refine lv_iconst (v := 3) hx hb dX8_many_20 (by decide) ?_
    refine lv_iadd hx hb dX8_many_21 ?_
    obtain ⟨hi2, hf⟩ := gi_e hf
    refine va_iald hx hb hK hP 0 0 rfl rfl hi2 dX8_many_22 ?_
    refine lv_iload_n hx hb dX8_many_23 rfl (lv_at hl 1 rfl) ?_
    refine lv_icmp_ne (tgt := 31) hx hb dX8_many_24 (by decide) (fun c3 => ?_) (fun c3 => ?_)
    · replace hf := it_f c3 hf
      refine lv_iconst (v := 0) hx hb dX8_many_31 (by decide) ?_
      exact b_X8_many_32 C G hR hP x1 x2 x4 x3 (0 : Int32) tt hK5 _ (lv_sub hl [0, 1, 2, 4] rfl) hf
    · replace hf := it_t c3 hf
      refine lv_iconst (v := 1) hx hb dX8_many_27 (by decide) ?_
      refine lv_goto (tgt := 32) hx hb dX8_many_28 (by decide) ?_
      exact b_X8_many_32 C G hR hP x1 x2 x4 x3 (1 : Int32) tt hK5 _ (lv_sub hl [0, 1, 2, 4] rfl) hf
def l_X8_many_5 (x1 : Int32) (x2 : Int32) (tt : Nat → Int32)  (n : Nat) (x3 : Int32) (x4 : Int32) : Option Int32 := itr (fun (k : Int32 × Int32 → Option Int32) (z : Int32 × Int32) => f_X8_many_5 x1 x2 z.1 z.2 tt (fun x3 x4 => k (x3, x4))) n (x3, x4)
set_option maxHeartbeats 4000000 in
set_option maxRecDepth 100000 in
theorem w_X8_many_5 {p : Program} {l : Launch} {e : Env} {s : State} {m : MethodId} {args : Array Value} {below : List Frame} {meth : Method} {c : Code} {Q : State → Prop} {dC : Nat → ClassId} {dI : Nat → Nat → Nat} {cs : Nat → ClassId} {a : Nat} {res : Int32} (C : CallFix p m c cX8_many 5 s args wsX8_many RX8) (G : GE dC dI cs s) (hR : RPi p l e ({ frames := 0, cells := 0, slots := 0, locals := 0 }) s m args below meth c cX8_many Q res) {tt : Nat → Int32} (hP : va_P (dC, dI) vwCl (wA cs a 362 tt) s.heap) (x1 : Int32) (x2 : Int32) (_ : Nat → Int32)   : ∀ (n : Nat) (x3 : Int32) (x4 : Int32) (ls : Array Slot), lv_has ls 5 [(0, .ref a), (1, .int (x1)), (2, .int (x2)), (3, .int (x3)), (4, .int (x4))] → l_X8_many_5 x1 x2 tt n x3 x4 = some res → W p l e ({ frames := 0, cells := 0, slots := 0, locals := 0 }) s m args below meth c s.heap [] 0 0 Q (F0 m 5 ls []) := by
  intro n
  induction n with
  | zero => intro x3 x4 ls hl hf; exact absurd hf (by simp [l_X8_many_5, itr])
  | succ n ih => intro x3 x4 ls hl hf; exact b_X8_many_5 C G hR hP x1 x2 x3 x4 tt (K5 := fun x3 x4 => l_X8_many_5 x1 x2 tt n x3 x4) (fun x3 x4 ls hl hf => ih x3 x4 ls hl hf) ls hl hf
def f_X8_many (x1 : Int32) (x2 : Int32) (tt : Nat → Int32) : Option Int32 :=
  lett (0 : Int32) fun x3_1 =>
  lett (0 : Int32) fun x4_3 =>
  l_X8_many_5 x1 x2 tt FU x3_1 x4_3
set_option maxHeartbeats 4000000 in
set_option maxRecDepth 100000 in
theorem c_X8_many (l : Launch) (dC : Nat → ClassId) (dI : Nat → Nat → Nat) (cs : Nat → ClassId) (a : Nat) (tt : Nat → Int32) (x1 : Int32) (x2 : Int32) (res : Int32) (hf : f_X8_many x1 x2 tt = some res) : Met l yX8_many wsX8_many ({ frames := 0, cells := 0, slots := 0, locals := 0 }) (va_Pc [.ref a, .int (x1), .int (x2)] (fun U => va_P (dC, dI) vwCl (wA cs a 362 tt) U.heap ∧ GE dC dI cs U)) (vp_Si (fun r => r = res)) 0 0 (fun _ => False) := by
  refine Met.ofW (cc := cX8_many) (maxL := 5) (ret := (some .int)) (by decide) rfl ?_
  intro p e s m args below meth c s₁ Bd hml hv
  obtain ⟨rfl, hP, G⟩ := hv
  have hts := atoms_spec (ws := wsX8_many) Bd.pre
  have hown : s.vm.findClass RX8 = some m.cls := findClass_of_methodNamed Bd.named
  have hlocks := Bd.notSynchronized
  have hx := Bd.exec
  have hb := Bd.bytes
  have hr := Bd.returns
  have C : CallFix p m c cX8_many 5 s _ wsX8_many RX8 := ⟨hx, hb, hml, hown, hts⟩
  obtain ⟨hK, hN⟩ := id G
  have hR : RPi p l e ({ frames := 0, cells := 0, slots := 0, locals := 0 }) s m ([.ref a, .int (x1), .int (x2)] : List Value).toArray below meth c cX8_many (MQ below (vp_Si (fun r => r = res)) ([.ref a, .int (x1), .int (x2)] : List Value).toArray s 0 0 (fun _ => False)) res := fun pc ls r dd h => W.iret hx hb hr (fun t ht hW => ⟨r, rfl, Option.some.inj h, ht⟩) (fun q hq => by cases hq) dd
  have hl := lv_entry ([.ref a, .int (x1), .int (x2)]) (n := 5) (Nat.le_of_ble_eq_true rfl)
  rw [lg_entry_eq]
  generalize (lg_sl ([.ref a, .int (x1), .int (x2)]) ++ List.replicate (5 - (lg_sl ([.ref a, .int (x1), .int (x2)])).length) Slot.unset).toArray = ls at hl ⊢
  have hl : lv_has ls 5 [(0, .ref a), (1, .int (x1)), (2, .int (x2))] := hl
  unfold f_X8_many at hf
  refine lv_iconst (v := 0) hx hb dX8_many_0 (by decide) ?_
  refine lv_topi (fun x3_1 ex3_1 => ?_)
  replace hf := lett_s ex3_1 hf
  refine lv_istore_n (lv' := [(3, .int (x3_1)), (0, .ref a), (1, .int (x1)), (2, .int (x2))]) hx hb dX8_many_1 rfl hl (by decide) rfl (fun ls hl => ?_)
  refine lv_iconst (v := 0) hx hb dX8_many_2 (by decide) ?_
  refine lv_topi (fun x4_3 ex4_3 => ?_)
  replace hf := lett_s ex4_3 hf
  refine lv_istore (lv' := [(4, .int (x4_3)), (3, .int (x3_1)), (0, .ref a), (1, .int (x1)), (2, .int (x2))]) hx hb dX8_many_3 hl (by decide) rfl (fun ls hl => ?_)
  exact w_X8_many_5 C G hR hP x1 x2 tt FU x3_1 x4_3 _ (lv_sub hl [2, 3, 4, 1, 0] rfl) hf

theorem in_X8_foretold_X8 : ∀ w ∈ wsX80, w ∈ wsX8_foretold := by decide +kernel
def f_X8_foretold_19 (M : Ms)  : Option (Int32 × Ms) :=
  bn (f_X8_bad M) fun r20 =>
  some (r20.1, r20.2)
set_option maxHeartbeats 4000000 in
set_option maxRecDepth 100000 in
theorem b_X8_foretold_19 {p : Program} {l : Launch} {e : Env} {s : State} {m : MethodId} {args : Array Value} {below : List Frame} {meth : Method} {c : Code} {Q : State → Prop} {dC : Nat → ClassId} {dI : Nat → Nat → Nat} {cs : Nat → ClassId} {A : Nat → Prop} {a : Nat → Nat} {res : Int32 × Ms} (C : CallFix p m c cX8_foretold 3 s args wsX8_foretold RX8) (G : GE dC dI cs s) (hA : ∀ q : Nat, s.heap.size ≤ q → A q) (hR : RTi p l e ({ frames := 4, cells := 0, slots := 0, locals := 92 }) s m args below meth c cX8_foretold Q (dC, dI) A (fun u : Ms => (wM cs a u)) res) (M : Ms)   (H : Heap) (locs : List Loc) (ls : Array Slot) (hl : lv_has ls 3 [(0, .ref (a 0))]) (hP : va_P (dC, dI) vwCl (wM cs a M) H) (hD : va_D A (wM cs a M)) (hS : va_S A s.heap H locs) (hf : f_X8_foretold_19 M = some res) : W p l e ({ frames := 4, cells := 0, slots := 0, locals := 92 }) s m args below meth c H locs 0 0 Q (F0 m 19 ls []) := by
  obtain ⟨hx, hb, hml, hown, hts⟩ := id C
  obtain ⟨hK, hN⟩ := id G
  unfold f_X8_foretold_19 at hf
  refine lv_aload_n hx hb dX8_foretold_19 rfl (lv_at hl 0 rfl) ?_
  obtain ⟨r20, hr20, hf⟩ := bn_e hf
  have hPc := hP.sub (ws' := (wM cs a M)) [0, 1, 2, 3, 4, 5, 6, 7, 8, 9, 10, 11] rfl
  have hDc := hD.sub (ws' := (wM cs a M)) [0, 1, 2, 3, 4, 5, 6, 7, 8, 9, 10, 11] (by decide) rfl
  have hFc := va_free (wc := (wM cs a M)) hD hS hA [0, 1, 2, 3, 4, 5, 6, 7, 8, 9, 10, 11] rfl
  refine va_calli (va_runV (As := []) (rest := []) C (c_X8_bad l dC dI cs a H.size M r20 hr20) (cwV 0 hts gX8_foretold_X8_bad rfl rfl rfl (by decide +kernel) ⟨Nat.le_of_ble_eq_true rfl, Nat.le_of_ble_eq_true rfl⟩) ⟨(fun a U g mk q => ⟨q.1, q.2.1, q.2.2.1, GE.calling q.2.2.2.1, q.2.2.2.2⟩), va_recv hK hPc (ci := 8) (q0 := 0) rfl rfl, (fun U hU hW => ⟨rfl, by rw [hU], by rw [hU]; exact hPc, GE.warm hW G, hDc.weaken (fun _ _ _ _ => trivial)⟩)⟩ rfl rfl hl.1 rfl (lv_room (Nat.le_of_ble_eq_true rfl)) dX8_foretold_20 ⟨Nat.le_of_ble_eq_true rfl, Nat.le_of_ble_eq_true rfl⟩) hS (fun q _ h => hFc q h) hFc (fun q u t H1 locs ht hvm hw hB hz1 hk1 hS => ?_)
  obtain ⟨rfl, rfl⟩ := hw
  obtain ⟨hP1, hD1⟩ := hB
  rw [ht] at hP1
  obtain ⟨hP, hD⟩ := va_join (wr := []) (w1 := (wM cs a r20.2)) hP hD [0, 1, 2, 3, 4, 5, 6, 7, 8, 9, 10, 11] [] rfl rfl (by decide) (by decide) hk1 hFc hP1 hD1
  generalize H1 = H at hP hS ⊢
  have hP := hP.sub (ws' := (wM cs a r20.2)) [0, 1, 2, 3, 4, 5, 6, 7, 8, 9, 10, 11] rfl
  have hD := hD.sub (ws' := (wM cs a r20.2)) [0, 1, 2, 3, 4, 5, 6, 7, 8, 9, 10, 11] (by decide) rfl
  exact hR _ _ _ _ _ _ dX8_foretold_23 hf hP hD hS
def f_X8_foretold_80 (s1 : Int32) (M : Ms)  : Option (Int32 × Ms) :=
  gi ((4 : Int32)) 362 <|
  bn (f_X8_many s1 ((M.2.2 1) ((4 : Int32)).toNatClampNeg) (M.2.2 1)) fun r86 =>
  some (r86, M)
set_option maxHeartbeats 4000000 in
set_option maxRecDepth 100000 in
theorem b_X8_foretold_80 {p : Program} {l : Launch} {e : Env} {s : State} {m : MethodId} {args : Array Value} {below : List Frame} {meth : Method} {c : Code} {Q : State → Prop} {dC : Nat → ClassId} {dI : Nat → Nat → Nat} {cs : Nat → ClassId} {A : Nat → Prop} {a : Nat → Nat} {res : Int32 × Ms} (C : CallFix p m c cX8_foretold 3 s args wsX8_foretold RX8) (G : GE dC dI cs s) (hA : ∀ q : Nat, s.heap.size ≤ q → A q) (hR : RTi p l e ({ frames := 4, cells := 0, slots := 0, locals := 92 }) s m args below meth c cX8_foretold Q (dC, dI) A (fun u : Ms => (wM cs a u)) res) (s1 : Int32) (M : Ms)   (H : Heap) (locs : List Loc) (ls : Array Slot) (hl : lv_has ls 3 [(0, .ref (a 0))]) (hP : va_P (dC, dI) vwCl (wM cs a M) H) (hD : va_D A (wM cs a M)) (hS : va_S A s.heap H locs) (hf : f_X8_foretold_80 s1 M = some res) : W p l e ({ frames := 4, cells := 0, slots := 0, locals := 92 }) s m args below meth c H locs 0 0 Q (F0 m 80 ls [.int (s1), .ref (a 2)]) := by
  obtain ⟨hx, hb, hml, hown, hts⟩ := id C
  obtain ⟨hK, hN⟩ := id G
  unfold f_X8_foretold_80 at hf
  refine lv_aload_n hx hb dX8_foretold_80 rfl (lv_at hl 0 rfl) ?_
  refine va_get (D := (dC, dI)) (ci := 8) (v := .ref (a 2)) (C := RX8) (T := TX8) (N := 20) hx hb hts in_X8_foretold_X8 hown hK hP 0 rfl rfl 1 (by decide) (hts (.fieldLink RX8 13 "BackLoansModel" "tried" "[I") (by decide +kernel)) (fun _ h9 => h9) rfl dX8_foretold_81 ?_
  refine lv_iconst (v := 4) hx hb dX8_foretold_84 (by decide) ?_
  obtain ⟨hi1, hf⟩ := gi_e hf
  refine va_iald hx hb hK hP 2 0 rfl rfl hi1 dX8_foretold_85 ?_
  obtain ⟨r86, hr86, hf⟩ := bn_e hf
  have hPc := hP.sub (ws' := (wA cs (a 2) 362 (M.2.2 1))) [2] rfl
  refine vp_callSi (W.runS (As := [.ref (a 2), .int (s1), .int (((M.2.2 1) ((4 : Int32)).toNatClampNeg))]) (rest := []) C (c_X8_many l dC dI cs (a 2) (M.2.2 1) s1 ((M.2.2 1) ((4 : Int32)).toNatClampNeg) r86 hr86) (va_cwS 3 hts gX8_foretold_X8_many rfl rfl rfl (by decide +kernel) ⟨Nat.le_of_ble_eq_true rfl, Nat.le_of_ble_eq_true rfl⟩) ⟨(fun a U g mk q => ⟨q.1, q.2.1, GE.calling q.2.2⟩), (fun U hU hW => ⟨rfl, by rw [hU]; exact hPc, GE.warm hW G⟩)⟩ rfl rfl hl.1 rfl (lv_room (Nat.le_of_ble_eq_true rfl)) dX8_foretold_86 ⟨Nat.le_of_ble_eq_true rfl, Nat.le_of_ble_eq_true rfl⟩) (fun qr86 hqr86 => ?_)
  obtain rfl := hqr86.symm
  exact hR _ _ _ _ _ _ dX8_foretold_89 hf hP hD hS
def f_X8_foretold (x1 : Int32) (x2 : Int32) (M : Ms) : Option (Int32 × Ms) :=
  bn (f_X8_in x1 (0 : Int32) (60 : Int32)) fun r4 =>
  if r4 = 0 then (
    f_X8_foretold_19 M
  ) else (
    bn (f_X8_in x2 (0 : Int32) (4 : Int32)) fun r13 =>
    if r13 = 0 then (
      f_X8_foretold_19 M
    ) else (
      bn (f_X8_goes x1 M) fun r26 =>
      if x2 = 0 then (
        gi ((0 : Int32)) 362 <|
        some (((r26.2.2 1) ((0 : Int32)).toNatClampNeg), r26)
      ) else (
        if x2 = (1 : Int32) then (
          gi ((6 : Int32)) 362 <|
          some (((r26.2.2 1) ((6 : Int32)).toNatClampNeg), r26)
        ) else (
          if x2 = (2 : Int32) then (
            f_X8_foretold_80 (1 : Int32) r26
          ) else (
            if x2 = (3 : Int32) then (
              f_X8_foretold_80 (2 : Int32) r26
            ) else (
              f_X8_foretold_80 (3 : Int32) r26
            )
          )
        )
      )
    )
  )
set_option maxHeartbeats 4000000 in
set_option maxRecDepth 100000 in
theorem c_X8_foretold (l : Launch) (dC : Nat → ClassId) (dI : Nat → Nat → Nat) (cs : Nat → ClassId) (a : Nat → Nat) (sz : Nat) (M : Ms) (x1 : Int32) (x2 : Int32) (res : Int32 × Ms) (hf : f_X8_foretold x1 x2 M = some res) : Met l yX8_foretold wsX8_foretold ({ frames := 4, cells := 0, slots := 0, locals := 92 }) (va_Pc [.ref (a 0), .int (x1), .int (x2)] (fun U => U.heap.size = sz ∧ va_P (dC, dI) vwCl (wM cs a M) U.heap ∧ GE dC dI cs U ∧ va_D (fun _ => True) (wM cs a M))) (va_Qi (fun r (u : Ms) => r = res.1 ∧ u = res.2) (fun u t => va_P (dC, dI) vwCl ((fun u : Ms => (wM cs a u)) u) t.heap ∧ va_D (va_A (wM cs a M) sz) ((fun u : Ms => (wM cs a u)) u)) (va_A (wM cs a M) sz)) 0 0 (va_A (wM cs a M) sz) := by
  refine Met.ofW (cc := cX8_foretold) (maxL := 3) (ret := (some .int)) (by decide) rfl ?_
  intro p e s m args below meth c s₁ Bd hml hv
  obtain ⟨rfl, hsz, hP, G, hD0⟩ := hv
  have hts := atoms_spec (ws := wsX8_foretold) Bd.pre
  have hown : s.vm.findClass RX8 = some m.cls := findClass_of_methodNamed Bd.named
  have hlocks := Bd.notSynchronized
  have hx := Bd.exec
  have hb := Bd.bytes
  have hr := Bd.returns
  have C : CallFix p m c cX8_foretold 3 s _ wsX8_foretold RX8 := ⟨hx, hb, hml, hown, hts⟩
  obtain ⟨hK, hN⟩ := id G
  subst hsz
  have hD := hD0.self (sz := s.heap.size)
  generalize hAe : va_A (wM cs a M) s.heap.size = A at hD ⊢
  have hA : ∀ q : Nat, s.heap.size ≤ q → A q := fun q h => by rw [← hAe]; exact Or.inr h
  have hS : va_S A s.heap s.heap [] := va_S.rf
  have hR : RTi p l e ({ frames := 4, cells := 0, slots := 0, locals := 92 }) s m ([.ref (a 0), .int (x1), .int (x2)] : List Value).toArray below meth c cX8_foretold (MQ below (va_Qi (fun r (u : Ms) => r = res.1 ∧ u = res.2) (fun u t => va_P (dC, dI) vwCl ((fun u : Ms => (wM cs a u)) u) t.heap ∧ va_D A ((fun u : Ms => (wM cs a u)) u)) A) ([.ref (a 0), .int (x1), .int (x2)] : List Value).toArray s 0 0 A) (dC, dI) A (fun u : Ms => (wM cs a u)) res := fun H locs pc ls r u dd h hP hD hS => W.iret hx hb hr (fun t ht hW => ⟨⟨r, u, rfl, by cases h; exact ⟨rfl, rfl⟩, by rw [ht]; exact hP, hD⟩, hS.F ht⟩) hS.2.2 dd
  have hl := lv_entry ([.ref (a 0), .int (x1), .int (x2)]) (n := 3) (Nat.le_of_ble_eq_true rfl)
  rw [lg_entry_eq]
  generalize (lg_sl ([.ref (a 0), .int (x1), .int (x2)]) ++ List.replicate (3 - (lg_sl ([.ref (a 0), .int (x1), .int (x2)])).length) Slot.unset).toArray = ls at hl ⊢
  have hl : lv_has ls 3 [(0, .ref (a 0)), (1, .int (x1)), (2, .int (x2))] := hl
  unfold f_X8_foretold at hf
  refine lv_iload_n hx hb dX8_foretold_0 rfl (lv_at hl 1 rfl) ?_
  refine lv_iconst (v := 0) hx hb dX8_foretold_1 (by decide) ?_
  refine lv_bipush (v := 60) hx hb dX8_foretold_2 (by decide) ?_
  obtain ⟨r4, hr4, hf⟩ := bn_e hf
  have hPc := hP.sub (ws' := ([] : va_W)) [] rfl
  refine vp_callSi (W.runS (As := [.int (x1), .int ((0 : Int32)), .int ((60 : Int32))]) (rest := []) C (c_X8_in l dC dI cs x1 (0 : Int32) (60 : Int32) r4 hr4) (va_cwS 3 hts gX8_foretold_X8_in rfl rfl rfl (by decide +kernel) ⟨Nat.le_of_ble_eq_true rfl, Nat.le_of_ble_eq_true rfl⟩) ⟨(fun a U g mk q => ⟨q.1, q.2.1, GE.calling q.2.2⟩), (fun U hU hW => ⟨rfl, by rw [hU]; exact hPc, GE.warm hW G⟩)⟩ rfl rfl hl.1 rfl (lv_room (Nat.le_of_ble_eq_true rfl)) dX8_foretold_4 ⟨Nat.le_of_ble_eq_true rfl, Nat.le_of_ble_eq_true rfl⟩) (fun qr4 hqr4 => ?_)
  obtain ⟨hqr4, hnr4⟩ := hqr4
  obtain rfl := hqr4.symm
  refine lv_if_eq (tgt := 19) hx hb dX8_foretold_7 (by decide) (fun c1 => ?_) (fun c1 => ?_)
  · replace hf := it_t c1 hf
    exact b_X8_foretold_19 C G hA hR M _ _ _ (lv_sub hl [0] rfl) hP hD hS hf
  · replace hf := it_f c1 hf
    refine lv_iload_n hx hb dX8_foretold_10 rfl (lv_at hl 2 rfl) ?_
    refine lv_iconst (v := 0) hx hb dX8_foretold_11 (by decide) ?_
    refine lv_iconst (v := 4) hx hb dX8_foretold_12 (by decide) ?_
    obtain ⟨r13, hr13, hf⟩ := bn_e hf
    have hPc := hP.sub (ws' := ([] : va_W)) [] rfl
    refine vp_callSi (W.runS (As := [.int (x2), .int ((0 : Int32)), .int ((4 : Int32))]) (rest := []) C (c_X8_in l dC dI cs x2 (0 : Int32) (4 : Int32) r13 hr13) (va_cwS 3 hts gX8_foretold_X8_in rfl rfl rfl (by decide +kernel) ⟨Nat.le_of_ble_eq_true rfl, Nat.le_of_ble_eq_true rfl⟩) ⟨(fun a U g mk q => ⟨q.1, q.2.1, GE.calling q.2.2⟩), (fun U hU hW => ⟨rfl, by rw [hU]; exact hPc, GE.warm hW G⟩)⟩ rfl rfl hl.1 rfl (lv_room (Nat.le_of_ble_eq_true rfl)) dX8_foretold_13 ⟨Nat.le_of_ble_eq_true rfl, Nat.le_of_ble_eq_true rfl⟩) (fun qr13 hqr13 => ?_)
    obtain ⟨hqr13, hnr13⟩ := hqr13
    obtain rfl := hqr13.symm
    refine lv_if_ne (tgt := 24) hx hb dX8_foretold_16 (by decide) (fun c2 => ?_) (fun c2 => ?_)
    · replace hf := it_f c2 hf
      refine lv_aload_n hx hb dX8_foretold_24 rfl (lv_at hl 0 rfl) ?_
      refine lv_iload_n hx hb dX8_foretold_25 rfl (lv_at hl 1 rfl) ?_
      obtain ⟨r26, hr26, hf⟩ := bn_e hf
      have hPc := hP.sub (ws' := (wM cs a M)) [0, 1, 2, 3, 4, 5, 6, 7, 8, 9, 10, 11] rfl
      have hDc := hD.sub (ws' := (wM cs a M)) [0, 1, 2, 3, 4, 5, 6, 7, 8, 9, 10, 11] (by decide) rfl
      have hFc := va_free (wc := (wM cs a M)) hD hS hA [0, 1, 2, 3, 4, 5, 6, 7, 8, 9, 10, 11] rfl
      refine va_callv (va_runV (As := [.int (x1)]) (rest := []) C (c_X8_goes l dC dI cs a s.heap.size M x1 r26 hr26) (cwV 1 hts gX8_foretold_X8_goes rfl rfl rfl (by decide +kernel) ⟨Nat.le_of_ble_eq_true rfl, Nat.le_of_ble_eq_true rfl⟩) ⟨(fun a U g mk q => ⟨q.1, q.2.1, q.2.2.1, GE.calling q.2.2.2.1, q.2.2.2.2⟩), va_recv hK hPc (ci := 8) (q0 := 0) rfl rfl, (fun U hU hW => ⟨rfl, by rw [hU], by rw [hU]; exact hPc, GE.warm hW G, hDc.weaken (fun _ _ _ _ => trivial)⟩)⟩ rfl rfl hl.1 rfl (lv_room (Nat.le_of_ble_eq_true rfl)) dX8_foretold_26 ⟨Nat.le_of_ble_eq_true rfl, Nat.le_of_ble_eq_true rfl⟩) hS (fun q _ h => hFc q h) hFc (fun u t H1 locs ht hvm hw hB hz1 hk1 hS => ?_)
      obtain rfl := hw.symm
      obtain ⟨hP1, hD1⟩ := hB
      rw [ht] at hP1
      obtain ⟨hP, hD⟩ := va_join (wr := []) (w1 := (wM cs a r26)) hP hD [0, 1, 2, 3, 4, 5, 6, 7, 8, 9, 10, 11] [] rfl rfl (by decide) (by decide) hk1 hFc hP1 hD1
      generalize H1 = H at hP hS ⊢
      have hP := hP.sub (ws' := (wM cs a r26)) [0, 1, 2, 3, 4, 5, 6, 7, 8, 9, 10, 11] rfl
      have hD := hD.sub (ws' := (wM cs a r26)) [0, 1, 2, 3, 4, 5, 6, 7, 8, 9, 10, 11] (by decide) rfl
      refine lv_iload_n hx hb dX8_foretold_29 rfl (lv_at hl 2 rfl) ?_
      refine lv_if_ne (tgt := 42) hx hb dX8_foretold_30 (by decide) (fun c3 => ?_) (fun c3 => ?_)
      · replace hf := it_f c3 hf
        refine lv_iload_n hx hb dX8_foretold_42 rfl (lv_at hl 2 rfl) ?_
        refine lv_iconst (v := 1) hx hb dX8_foretold_43 (by decide) ?_
        refine lv_icmp_ne (tgt := 57) hx hb dX8_foretold_44 (by decide) (fun c4 => ?_) (fun c4 => ?_)
        · replace hf := it_f c4 hf
          refine lv_aload_n hx hb dX8_foretold_57 rfl (lv_at hl 0 rfl) ?_
          refine va_get (D := (dC, dI)) (ci := 8) (v := .ref (a 2)) (C := RX8) (T := TX8) (N := 20) hx hb hts in_X8_foretold_X8 hown hK hP 0 rfl rfl 1 (by decide) (hts (.fieldLink RX8 13 "BackLoansModel" "tried" "[I") (by decide +kernel)) (fun _ h9 => h9) rfl dX8_foretold_58 ?_
          refine lv_iload_n hx hb dX8_foretold_61 rfl (lv_at hl 2 rfl) ?_
          refine lv_iconst (v := 2) hx hb dX8_foretold_62 (by decide) ?_
          refine lv_icmp_ne (tgt := 70) hx hb dX8_foretold_63 (by decide) (fun c5 => ?_) (fun c5 => ?_)
          · replace hf := it_f c5 hf
            refine lv_iload_n hx hb dX8_foretold_70 rfl (lv_at hl 2 rfl) ?_
            refine lv_iconst (v := 3) hx hb dX8_foretold_71 (by decide) ?_
            refine lv_icmp_ne (tgt := 79) hx hb dX8_foretold_72 (by decide) (fun c6 => ?_) (fun c6 => ?_)
            · replace hf := it_f c6 hf
              refine lv_iconst (v := 3) hx hb dX8_foretold_79 (by decide) ?_
              exact b_X8_foretold_80 C G hA hR (3 : Int32) r26 _ _ _ (lv_sub hl [0] rfl) hP hD hS hf
            · replace hf := it_t c6 hf
              refine lv_iconst (v := 2) hx hb dX8_foretold_75 (by decide) ?_
              refine lv_goto (tgt := 80) hx hb dX8_foretold_76 (by decide) ?_
              exact b_X8_foretold_80 C G hA hR (2 : Int32) r26 _ _ _ (lv_sub hl [0] rfl) hP hD hS hf
          · replace hf := it_t c5 hf
            refine lv_iconst (v := 1) hx hb dX8_foretold_66 (by decide) ?_
            refine lv_goto (tgt := 80) hx hb dX8_foretold_67 (by decide) ?_
            exact b_X8_foretold_80 C G hA hR (1 : Int32) r26 _ _ _ (lv_sub hl [0] rfl) hP hD hS hf
        · replace hf := it_t c4 hf
          refine lv_aload_n hx hb dX8_foretold_47 rfl (lv_at hl 0 rfl) ?_
          refine va_get (D := (dC, dI)) (ci := 8) (v := .ref (a 2)) (C := RX8) (T := TX8) (N := 20) hx hb hts in_X8_foretold_X8 hown hK hP 0 rfl rfl 1 (by decide) (hts (.fieldLink RX8 13 "BackLoansModel" "tried" "[I") (by decide +kernel)) (fun _ h9 => h9) rfl dX8_foretold_48 ?_
          refine lv_bipush (v := 6) hx hb dX8_foretold_51 (by decide) ?_
          obtain ⟨hi7, hf⟩ := gi_e hf
          refine va_iald hx hb hK hP 2 0 rfl rfl hi7 dX8_foretold_53 ?_
          refine lv_goto (tgt := 89) hx hb dX8_foretold_54 (by decide) ?_
          exact hR _ _ _ _ _ _ dX8_foretold_89 hf hP hD hS
      · replace hf := it_t c3 hf
        refine lv_aload_n hx hb dX8_foretold_33 rfl (lv_at hl 0 rfl) ?_
        refine va_get (D := (dC, dI)) (ci := 8) (v := .ref (a 2)) (C := RX8) (T := TX8) (N := 20) hx hb hts in_X8_foretold_X8 hown hK hP 0 rfl rfl 1 (by decide) (hts (.fieldLink RX8 13 "BackLoansModel" "tried" "[I") (by decide +kernel)) (fun _ h9 => h9) rfl dX8_foretold_34 ?_
        refine lv_iconst (v := 0) hx hb dX8_foretold_37 (by decide) ?_
        obtain ⟨hi8, hf⟩ := gi_e hf
        refine va_iald hx hb hK hP 2 0 rfl rfl hi8 dX8_foretold_38 ?_
        refine lv_goto (tgt := 89) hx hb dX8_foretold_39 (by decide) ?_
        exact hR _ _ _ _ _ _ dX8_foretold_89 hf hP hD hS
    · replace hf := it_t c2 hf
      exact b_X8_foretold_19 C G hA hR M _ _ _ (lv_sub hl [0] rfl) hP hD hS hf

theorem in_X8_purse_X8 : ∀ w ∈ wsX80, w ∈ wsX8_purse := by decide +kernel
def f_X8_purse_18 (M : Ms)  : Option (Int32 × Ms) :=
  bn (f_X8_bad M) fun r19 =>
  some (r19.1, r19.2)
set_option maxHeartbeats 4000000 in
set_option maxRecDepth 100000 in
theorem b_X8_purse_18 {p : Program} {l : Launch} {e : Env} {s : State} {m : MethodId} {args : Array Value} {below : List Frame} {meth : Method} {c : Code} {Q : State → Prop} {dC : Nat → ClassId} {dI : Nat → Nat → Nat} {cs : Nat → ClassId} {A : Nat → Prop} {a : Nat → Nat} {res : Int32 × Ms} (C : CallFix p m c cX8_purse 3 s args wsX8_purse RX8) (G : GE dC dI cs s) (hA : ∀ q : Nat, s.heap.size ≤ q → A q) (hR : RTi p l e ({ frames := 4, cells := 0, slots := 0, locals := 92 }) s m args below meth c cX8_purse Q (dC, dI) A (fun u : Ms => (wM cs a u)) res) (M : Ms)   (H : Heap) (locs : List Loc) (ls : Array Slot) (hl : lv_has ls 3 [(0, .ref (a 0))]) (hP : va_P (dC, dI) vwCl (wM cs a M) H) (hD : va_D A (wM cs a M)) (hS : va_S A s.heap H locs) (hf : f_X8_purse_18 M = some res) : W p l e ({ frames := 4, cells := 0, slots := 0, locals := 92 }) s m args below meth c H locs 0 0 Q (F0 m 18 ls []) := by
  obtain ⟨hx, hb, hml, hown, hts⟩ := id C
  obtain ⟨hK, hN⟩ := id G
  unfold f_X8_purse_18 at hf
  refine lv_aload_n hx hb dX8_purse_18 rfl (lv_at hl 0 rfl) ?_
  obtain ⟨r19, hr19, hf⟩ := bn_e hf
  have hPc := hP.sub (ws' := (wM cs a M)) [0, 1, 2, 3, 4, 5, 6, 7, 8, 9, 10, 11] rfl
  have hDc := hD.sub (ws' := (wM cs a M)) [0, 1, 2, 3, 4, 5, 6, 7, 8, 9, 10, 11] (by decide) rfl
  have hFc := va_free (wc := (wM cs a M)) hD hS hA [0, 1, 2, 3, 4, 5, 6, 7, 8, 9, 10, 11] rfl
  refine va_calli (va_runV (As := []) (rest := []) C (c_X8_bad l dC dI cs a H.size M r19 hr19) (cwV 0 hts gX8_purse_X8_bad rfl rfl rfl (by decide +kernel) ⟨Nat.le_of_ble_eq_true rfl, Nat.le_of_ble_eq_true rfl⟩) ⟨(fun a U g mk q => ⟨q.1, q.2.1, q.2.2.1, GE.calling q.2.2.2.1, q.2.2.2.2⟩), va_recv hK hPc (ci := 8) (q0 := 0) rfl rfl, (fun U hU hW => ⟨rfl, by rw [hU], by rw [hU]; exact hPc, GE.warm hW G, hDc.weaken (fun _ _ _ _ => trivial)⟩)⟩ rfl rfl hl.1 rfl (lv_room (Nat.le_of_ble_eq_true rfl)) dX8_purse_19 ⟨Nat.le_of_ble_eq_true rfl, Nat.le_of_ble_eq_true rfl⟩) hS (fun q _ h => hFc q h) hFc (fun q u t H1 locs ht hvm hw hB hz1 hk1 hS => ?_)
  obtain ⟨rfl, rfl⟩ := hw
  obtain ⟨hP1, hD1⟩ := hB
  rw [ht] at hP1
  obtain ⟨hP, hD⟩ := va_join (wr := []) (w1 := (wM cs a r19.2)) hP hD [0, 1, 2, 3, 4, 5, 6, 7, 8, 9, 10, 11] [] rfl rfl (by decide) (by decide) hk1 hFc hP1 hD1
  generalize H1 = H at hP hS ⊢
  have hP := hP.sub (ws' := (wM cs a r19.2)) [0, 1, 2, 3, 4, 5, 6, 7, 8, 9, 10, 11] rfl
  have hD := hD.sub (ws' := (wM cs a r19.2)) [0, 1, 2, 3, 4, 5, 6, 7, 8, 9, 10, 11] (by decide) rfl
  exact hR _ _ _ _ _ _ dX8_purse_22 hf hP hD hS
def f_X8_purse (x1 : Int32) (x2 : Int32) (M : Ms) : Option (Int32 × Ms) :=
  bn (f_X8_in x1 (0 : Int32) (60 : Int32)) fun r4 =>
  if r4 = 0 then (
    f_X8_purse_18 M
  ) else (
    bn (f_X8_isPerson x2 M) fun r12 =>
    if r12 = 0 then (
      f_X8_purse_18 M
    ) else (
      bn (f_X8_goes x1 M) fun r25 =>
      gi ((((8 : Int32) + ((3 : Int32) * x2)) + (2 : Int32))) 362 <|
      some (((r25.2.2 1) ((((8 : Int32) + ((3 : Int32) * x2)) + (2 : Int32))).toNatClampNeg), r25)
    )
  )
set_option maxHeartbeats 4000000 in
set_option maxRecDepth 100000 in
theorem c_X8_purse (l : Launch) (dC : Nat → ClassId) (dI : Nat → Nat → Nat) (cs : Nat → ClassId) (a : Nat → Nat) (sz : Nat) (M : Ms) (x1 : Int32) (x2 : Int32) (res : Int32 × Ms) (hf : f_X8_purse x1 x2 M = some res) : Met l yX8_purse wsX8_purse ({ frames := 4, cells := 0, slots := 0, locals := 92 }) (va_Pc [.ref (a 0), .int (x1), .int (x2)] (fun U => U.heap.size = sz ∧ va_P (dC, dI) vwCl (wM cs a M) U.heap ∧ GE dC dI cs U ∧ va_D (fun _ => True) (wM cs a M))) (va_Qi (fun r (u : Ms) => r = res.1 ∧ u = res.2) (fun u t => va_P (dC, dI) vwCl ((fun u : Ms => (wM cs a u)) u) t.heap ∧ va_D (va_A (wM cs a M) sz) ((fun u : Ms => (wM cs a u)) u)) (va_A (wM cs a M) sz)) 0 0 (va_A (wM cs a M) sz) := by
  refine Met.ofW (cc := cX8_purse) (maxL := 3) (ret := (some .int)) (by decide) rfl ?_
  intro p e s m args below meth c s₁ Bd hml hv
  obtain ⟨rfl, hsz, hP, G, hD0⟩ := hv
  have hts := atoms_spec (ws := wsX8_purse) Bd.pre
  have hown : s.vm.findClass RX8 = some m.cls := findClass_of_methodNamed Bd.named
  have hlocks := Bd.notSynchronized
  have hx := Bd.exec
  have hb := Bd.bytes
  have hr := Bd.returns
  have C : CallFix p m c cX8_purse 3 s _ wsX8_purse RX8 := ⟨hx, hb, hml, hown, hts⟩
  obtain ⟨hK, hN⟩ := id G
  subst hsz
  have hD := hD0.self (sz := s.heap.size)
  generalize hAe : va_A (wM cs a M) s.heap.size = A at hD ⊢
  have hA : ∀ q : Nat, s.heap.size ≤ q → A q := fun q h => by rw [← hAe]; exact Or.inr h
  have hS : va_S A s.heap s.heap [] := va_S.rf
  have hR : RTi p l e ({ frames := 4, cells := 0, slots := 0, locals := 92 }) s m ([.ref (a 0), .int (x1), .int (x2)] : List Value).toArray below meth c cX8_purse (MQ below (va_Qi (fun r (u : Ms) => r = res.1 ∧ u = res.2) (fun u t => va_P (dC, dI) vwCl ((fun u : Ms => (wM cs a u)) u) t.heap ∧ va_D A ((fun u : Ms => (wM cs a u)) u)) A) ([.ref (a 0), .int (x1), .int (x2)] : List Value).toArray s 0 0 A) (dC, dI) A (fun u : Ms => (wM cs a u)) res := fun H locs pc ls r u dd h hP hD hS => W.iret hx hb hr (fun t ht hW => ⟨⟨r, u, rfl, by cases h; exact ⟨rfl, rfl⟩, by rw [ht]; exact hP, hD⟩, hS.F ht⟩) hS.2.2 dd
  have hl := lv_entry ([.ref (a 0), .int (x1), .int (x2)]) (n := 3) (Nat.le_of_ble_eq_true rfl)
  rw [lg_entry_eq]
  generalize (lg_sl ([.ref (a 0), .int (x1), .int (x2)]) ++ List.replicate (3 - (lg_sl ([.ref (a 0), .int (x1), .int (x2)])).length) Slot.unset).toArray = ls at hl ⊢
  have hl : lv_has ls 3 [(0, .ref (a 0)), (1, .int (x1)), (2, .int (x2))] := hl
  unfold f_X8_purse at hf
  refine lv_iload_n hx hb dX8_purse_0 rfl (lv_at hl 1 rfl) ?_
  refine lv_iconst (v := 0) hx hb dX8_purse_1 (by decide) ?_
  refine lv_bipush (v := 60) hx hb dX8_purse_2 (by decide) ?_
  obtain ⟨r4, hr4, hf⟩ := bn_e hf
  have hPc := hP.sub (ws' := ([] : va_W)) [] rfl
  refine vp_callSi (W.runS (As := [.int (x1), .int ((0 : Int32)), .int ((60 : Int32))]) (rest := []) C (c_X8_in l dC dI cs x1 (0 : Int32) (60 : Int32) r4 hr4) (va_cwS 3 hts gX8_purse_X8_in rfl rfl rfl (by decide +kernel) ⟨Nat.le_of_ble_eq_true rfl, Nat.le_of_ble_eq_true rfl⟩) ⟨(fun a U g mk q => ⟨q.1, q.2.1, GE.calling q.2.2⟩), (fun U hU hW => ⟨rfl, by rw [hU]; exact hPc, GE.warm hW G⟩)⟩ rfl rfl hl.1 rfl (lv_room (Nat.le_of_ble_eq_true rfl)) dX8_purse_4 ⟨Nat.le_of_ble_eq_true rfl, Nat.le_of_ble_eq_true rfl⟩) (fun qr4 hqr4 => ?_)
  obtain ⟨hqr4, hnr4⟩ := hqr4
  obtain rfl := hqr4.symm
  refine lv_if_eq (tgt := 18) hx hb dX8_purse_7 (by decide) (fun c1 => ?_) (fun c1 => ?_)
  · replace hf := it_t c1 hf
    exact b_X8_purse_18 C G hA hR M _ _ _ (lv_sub hl [0] rfl) hP hD hS hf
  · replace hf := it_f c1 hf
    refine lv_aload_n hx hb dX8_purse_10 rfl (lv_at hl 0 rfl) ?_
    refine lv_iload_n hx hb dX8_purse_11 rfl (lv_at hl 2 rfl) ?_
    obtain ⟨r12, hr12, hf⟩ := bn_e hf
    have hPc := hP.sub (ws' := (wM cs a M)) [0, 1, 2, 3, 4, 5, 6, 7, 8, 9, 10, 11] rfl
    refine vp_callSi (W.runV (As := [.int (x2)]) (rest := []) C (c_X8_isPerson l dC dI cs a M x2 r12 hr12) (cwV 1 hts gX8_purse_X8_isPerson rfl rfl rfl (by decide +kernel) ⟨Nat.le_of_ble_eq_true rfl, Nat.le_of_ble_eq_true rfl⟩) ⟨(fun a U g mk q => ⟨q.1, q.2.1, GE.calling q.2.2⟩), va_recv hK hPc (ci := 8) (q0 := 0) rfl rfl, (fun U hU hW => ⟨rfl, by rw [hU]; exact hPc, GE.warm hW G⟩)⟩ rfl rfl hl.1 rfl (lv_room (Nat.le_of_ble_eq_true rfl)) dX8_purse_12 ⟨Nat.le_of_ble_eq_true rfl, Nat.le_of_ble_eq_true rfl⟩) (fun qr12 hqr12 => ?_)
    obtain ⟨hqr12, hnr12⟩ := hqr12
    obtain rfl := hqr12.symm
    refine lv_if_ne (tgt := 23) hx hb dX8_purse_15 (by decide) (fun c2 => ?_) (fun c2 => ?_)
    · replace hf := it_f c2 hf
      refine lv_aload_n hx hb dX8_purse_23 rfl (lv_at hl 0 rfl) ?_
      refine lv_iload_n hx hb dX8_purse_24 rfl (lv_at hl 1 rfl) ?_
      obtain ⟨r25, hr25, hf⟩ := bn_e hf
      have hPc := hP.sub (ws' := (wM cs a M)) [0, 1, 2, 3, 4, 5, 6, 7, 8, 9, 10, 11] rfl
      have hDc := hD.sub (ws' := (wM cs a M)) [0, 1, 2, 3, 4, 5, 6, 7, 8, 9, 10, 11] (by decide) rfl
      have hFc := va_free (wc := (wM cs a M)) hD hS hA [0, 1, 2, 3, 4, 5, 6, 7, 8, 9, 10, 11] rfl
      refine va_callv (va_runV (As := [.int (x1)]) (rest := []) C (c_X8_goes l dC dI cs a s.heap.size M x1 r25 hr25) (cwV 1 hts gX8_purse_X8_goes rfl rfl rfl (by decide +kernel) ⟨Nat.le_of_ble_eq_true rfl, Nat.le_of_ble_eq_true rfl⟩) ⟨(fun a U g mk q => ⟨q.1, q.2.1, q.2.2.1, GE.calling q.2.2.2.1, q.2.2.2.2⟩), va_recv hK hPc (ci := 8) (q0 := 0) rfl rfl, (fun U hU hW => ⟨rfl, by rw [hU], by rw [hU]; exact hPc, GE.warm hW G, hDc.weaken (fun _ _ _ _ => trivial)⟩)⟩ rfl rfl hl.1 rfl (lv_room (Nat.le_of_ble_eq_true rfl)) dX8_purse_25 ⟨Nat.le_of_ble_eq_true rfl, Nat.le_of_ble_eq_true rfl⟩) hS (fun q _ h => hFc q h) hFc (fun u t H1 locs ht hvm hw hB hz1 hk1 hS => ?_)
      obtain rfl := hw.symm
      obtain ⟨hP1, hD1⟩ := hB
      rw [ht] at hP1
      obtain ⟨hP, hD⟩ := va_join (wr := []) (w1 := (wM cs a r25)) hP hD [0, 1, 2, 3, 4, 5, 6, 7, 8, 9, 10, 11] [] rfl rfl (by decide) (by decide) hk1 hFc hP1 hD1
      generalize H1 = H at hP hS ⊢
      have hP := hP.sub (ws' := (wM cs a r25)) [0, 1, 2, 3, 4, 5, 6, 7, 8, 9, 10, 11] rfl
      have hD := hD.sub (ws' := (wM cs a r25)) [0, 1, 2, 3, 4, 5, 6, 7, 8, 9, 10, 11] (by decide) rfl
      refine lv_aload_n hx hb dX8_purse_28 rfl (lv_at hl 0 rfl) ?_
      refine va_get (D := (dC, dI)) (ci := 8) (v := .ref (a 2)) (C := RX8) (T := TX8) (N := 20) hx hb hts in_X8_purse_X8 hown hK hP 0 rfl rfl 1 (by decide) (hts (.fieldLink RX8 13 "BackLoansModel" "tried" "[I") (by decide +kernel)) (fun _ h9 => h9) rfl dX8_purse_29 ?_
      refine lv_bipush (v := 8) hx hb dX8_purse_32 (by decide) ?_
      refine lv_iconst (v := 3) hx hb dX8_purse_34 (by decide) ?_
      refine lv_iload_n hx hb dX8_purse_35 rfl (lv_at hl 2 rfl) ?_
      refine lv_imul hx hb dX8_purse_36 ?_
      refine lv_iadd hx hb dX8_purse_37 ?_
      refine lv_iconst (v := 2) hx hb dX8_purse_38 (by decide) ?_
      refine lv_iadd hx hb dX8_purse_39 ?_
      obtain ⟨hi3, hf⟩ := gi_e hf
      refine va_iald hx hb hK hP 2 0 rfl rfl hi3 dX8_purse_40 ?_
      exact hR _ _ _ _ _ _ dX8_purse_41 hf hP hD hS
    · replace hf := it_t c2 hf
      exact b_X8_purse_18 C G hA hR M _ _ _ (lv_sub hl [0] rfl) hP hD hS hf

theorem in_X8_loanThen_X8 : ∀ w ∈ wsX80, w ∈ wsX8_loanThen := by decide +kernel
def f_X8_loanThen_27 (M : Ms)  : Option (Int32 × Ms) :=
  bn (f_X8_bad M) fun r28 =>
  some (r28.1, r28.2)
set_option maxHeartbeats 4000000 in
set_option maxRecDepth 100000 in
theorem b_X8_loanThen_27 {p : Program} {l : Launch} {e : Env} {s : State} {m : MethodId} {args : Array Value} {below : List Frame} {meth : Method} {c : Code} {Q : State → Prop} {dC : Nat → ClassId} {dI : Nat → Nat → Nat} {cs : Nat → ClassId} {A : Nat → Prop} {a : Nat → Nat} {res : Int32 × Ms} (C : CallFix p m c cX8_loanThen 4 s args wsX8_loanThen RX8) (G : GE dC dI cs s) (hA : ∀ q : Nat, s.heap.size ≤ q → A q) (hR : RTi p l e ({ frames := 4, cells := 0, slots := 0, locals := 92 }) s m args below meth c cX8_loanThen Q (dC, dI) A (fun u : Ms => (wM cs a u)) res) (M : Ms)   (H : Heap) (locs : List Loc) (ls : Array Slot) (hl : lv_has ls 4 [(0, .ref (a 0))]) (hP : va_P (dC, dI) vwCl (wM cs a M) H) (hD : va_D A (wM cs a M)) (hS : va_S A s.heap H locs) (hf : f_X8_loanThen_27 M = some res) : W p l e ({ frames := 4, cells := 0, slots := 0, locals := 92 }) s m args below meth c H locs 0 0 Q (F0 m 27 ls []) := by
  obtain ⟨hx, hb, hml, hown, hts⟩ := id C
  obtain ⟨hK, hN⟩ := id G
  unfold f_X8_loanThen_27 at hf
  refine lv_aload_n hx hb dX8_loanThen_27 rfl (lv_at hl 0 rfl) ?_
  obtain ⟨r28, hr28, hf⟩ := bn_e hf
  have hPc := hP.sub (ws' := (wM cs a M)) [0, 1, 2, 3, 4, 5, 6, 7, 8, 9, 10, 11] rfl
  have hDc := hD.sub (ws' := (wM cs a M)) [0, 1, 2, 3, 4, 5, 6, 7, 8, 9, 10, 11] (by decide) rfl
  have hFc := va_free (wc := (wM cs a M)) hD hS hA [0, 1, 2, 3, 4, 5, 6, 7, 8, 9, 10, 11] rfl
  refine va_calli (va_runV (As := []) (rest := []) C (c_X8_bad l dC dI cs a H.size M r28 hr28) (cwV 0 hts gX8_loanThen_X8_bad rfl rfl rfl (by decide +kernel) ⟨Nat.le_of_ble_eq_true rfl, Nat.le_of_ble_eq_true rfl⟩) ⟨(fun a U g mk q => ⟨q.1, q.2.1, q.2.2.1, GE.calling q.2.2.2.1, q.2.2.2.2⟩), va_recv hK hPc (ci := 8) (q0 := 0) rfl rfl, (fun U hU hW => ⟨rfl, by rw [hU], by rw [hU]; exact hPc, GE.warm hW G, hDc.weaken (fun _ _ _ _ => trivial)⟩)⟩ rfl rfl hl.1 rfl (lv_room (Nat.le_of_ble_eq_true rfl)) dX8_loanThen_28 ⟨Nat.le_of_ble_eq_true rfl, Nat.le_of_ble_eq_true rfl⟩) hS (fun q _ h => hFc q h) hFc (fun q u t H1 locs ht hvm hw hB hz1 hk1 hS => ?_)
  obtain ⟨rfl, rfl⟩ := hw
  obtain ⟨hP1, hD1⟩ := hB
  rw [ht] at hP1
  obtain ⟨hP, hD⟩ := va_join (wr := []) (w1 := (wM cs a r28.2)) hP hD [0, 1, 2, 3, 4, 5, 6, 7, 8, 9, 10, 11] [] rfl rfl (by decide) (by decide) hk1 hFc hP1 hD1
  generalize H1 = H at hP hS ⊢
  have hP := hP.sub (ws' := (wM cs a r28.2)) [0, 1, 2, 3, 4, 5, 6, 7, 8, 9, 10, 11] rfl
  have hD := hD.sub (ws' := (wM cs a r28.2)) [0, 1, 2, 3, 4, 5, 6, 7, 8, 9, 10, 11] (by decide) rfl
  exact hR _ _ _ _ _ _ dX8_loanThen_31 hf hP hD hS
def f_X8_loanThen (x1 : Int32) (x2 : Int32) (x3 : Int32) (M : Ms) : Option (Int32 × Ms) :=
  bn (f_X8_in x1 (0 : Int32) (60 : Int32)) fun r4 =>
  if r4 = 0 then (
    f_X8_loanThen_27 M
  ) else (
    bn (f_X8_isLoan x2 M) fun r12 =>
    if r12 = 0 then (
      f_X8_loanThen_27 M
    ) else (
      bn (f_X8_in x3 (0 : Int32) (1 : Int32)) fun r21 =>
      if r21 = 0 then (
        f_X8_loanThen_27 M
      ) else (
        bn (f_X8_goes x1 M) fun r34 =>
        gi (((((26 : Int32) + ((5 : Int32) * x2)) + (3 : Int32)) + x3)) 362 <|
        some (((r34.2.2 1) (((((26 : Int32) + ((5 : Int32) * x2)) + (3 : Int32)) + x3)).toNatClampNeg), r34)
      )
    )
  )
set_option maxHeartbeats 4000000 in
set_option maxRecDepth 100000 in
theorem c_X8_loanThen (l : Launch) (dC : Nat → ClassId) (dI : Nat → Nat → Nat) (cs : Nat → ClassId) (a : Nat → Nat) (sz : Nat) (M : Ms) (x1 : Int32) (x2 : Int32) (x3 : Int32) (res : Int32 × Ms) (hf : f_X8_loanThen x1 x2 x3 M = some res) : Met l yX8_loanThen wsX8_loanThen ({ frames := 4, cells := 0, slots := 0, locals := 92 }) (va_Pc [.ref (a 0), .int (x1), .int (x2), .int (x3)] (fun U => U.heap.size = sz ∧ va_P (dC, dI) vwCl (wM cs a M) U.heap ∧ GE dC dI cs U ∧ va_D (fun _ => True) (wM cs a M))) (va_Qi (fun r (u : Ms) => r = res.1 ∧ u = res.2) (fun u t => va_P (dC, dI) vwCl ((fun u : Ms => (wM cs a u)) u) t.heap ∧ va_D (va_A (wM cs a M) sz) ((fun u : Ms => (wM cs a u)) u)) (va_A (wM cs a M) sz)) 0 0 (va_A (wM cs a M) sz) := by
  refine Met.ofW (cc := cX8_loanThen) (maxL := 4) (ret := (some .int)) (by decide) rfl ?_
  intro p e s m args below meth c s₁ Bd hml hv
  obtain ⟨rfl, hsz, hP, G, hD0⟩ := hv
  have hts := atoms_spec (ws := wsX8_loanThen) Bd.pre
  have hown : s.vm.findClass RX8 = some m.cls := findClass_of_methodNamed Bd.named
  have hlocks := Bd.notSynchronized
  have hx := Bd.exec
  have hb := Bd.bytes
  have hr := Bd.returns
  have C : CallFix p m c cX8_loanThen 4 s _ wsX8_loanThen RX8 := ⟨hx, hb, hml, hown, hts⟩
  obtain ⟨hK, hN⟩ := id G
  subst hsz
  have hD := hD0.self (sz := s.heap.size)
  generalize hAe : va_A (wM cs a M) s.heap.size = A at hD ⊢
  have hA : ∀ q : Nat, s.heap.size ≤ q → A q := fun q h => by rw [← hAe]; exact Or.inr h
  have hS : va_S A s.heap s.heap [] := va_S.rf
  have hR : RTi p l e ({ frames := 4, cells := 0, slots := 0, locals := 92 }) s m ([.ref (a 0), .int (x1), .int (x2), .int (x3)] : List Value).toArray below meth c cX8_loanThen (MQ below (va_Qi (fun r (u : Ms) => r = res.1 ∧ u = res.2) (fun u t => va_P (dC, dI) vwCl ((fun u : Ms => (wM cs a u)) u) t.heap ∧ va_D A ((fun u : Ms => (wM cs a u)) u)) A) ([.ref (a 0), .int (x1), .int (x2), .int (x3)] : List Value).toArray s 0 0 A) (dC, dI) A (fun u : Ms => (wM cs a u)) res := fun H locs pc ls r u dd h hP hD hS => W.iret hx hb hr (fun t ht hW => ⟨⟨r, u, rfl, by cases h; exact ⟨rfl, rfl⟩, by rw [ht]; exact hP, hD⟩, hS.F ht⟩) hS.2.2 dd
  have hl := lv_entry ([.ref (a 0), .int (x1), .int (x2), .int (x3)]) (n := 4) (Nat.le_of_ble_eq_true rfl)
  rw [lg_entry_eq]
  generalize (lg_sl ([.ref (a 0), .int (x1), .int (x2), .int (x3)]) ++ List.replicate (4 - (lg_sl ([.ref (a 0), .int (x1), .int (x2), .int (x3)])).length) Slot.unset).toArray = ls at hl ⊢
  have hl : lv_has ls 4 [(0, .ref (a 0)), (1, .int (x1)), (2, .int (x2)), (3, .int (x3))] := hl
  unfold f_X8_loanThen at hf
  refine lv_iload_n hx hb dX8_loanThen_0 rfl (lv_at hl 1 rfl) ?_
  refine lv_iconst (v := 0) hx hb dX8_loanThen_1 (by decide) ?_
  refine lv_bipush (v := 60) hx hb dX8_loanThen_2 (by decide) ?_
  obtain ⟨r4, hr4, hf⟩ := bn_e hf
  have hPc := hP.sub (ws' := ([] : va_W)) [] rfl
  refine vp_callSi (W.runS (As := [.int (x1), .int ((0 : Int32)), .int ((60 : Int32))]) (rest := []) C (c_X8_in l dC dI cs x1 (0 : Int32) (60 : Int32) r4 hr4) (va_cwS 3 hts gX8_loanThen_X8_in rfl rfl rfl (by decide +kernel) ⟨Nat.le_of_ble_eq_true rfl, Nat.le_of_ble_eq_true rfl⟩) ⟨(fun a U g mk q => ⟨q.1, q.2.1, GE.calling q.2.2⟩), (fun U hU hW => ⟨rfl, by rw [hU]; exact hPc, GE.warm hW G⟩)⟩ rfl rfl hl.1 rfl (lv_room (Nat.le_of_ble_eq_true rfl)) dX8_loanThen_4 ⟨Nat.le_of_ble_eq_true rfl, Nat.le_of_ble_eq_true rfl⟩) (fun qr4 hqr4 => ?_)
  obtain ⟨hqr4, hnr4⟩ := hqr4
  obtain rfl := hqr4.symm
  refine lv_if_eq (tgt := 27) hx hb dX8_loanThen_7 (by decide) (fun c1 => ?_) (fun c1 => ?_)
  · replace hf := it_t c1 hf
    exact b_X8_loanThen_27 C G hA hR M _ _ _ (lv_sub hl [0] rfl) hP hD hS hf
  · replace hf := it_f c1 hf
    refine lv_aload_n hx hb dX8_loanThen_10 rfl (lv_at hl 0 rfl) ?_
    refine lv_iload_n hx hb dX8_loanThen_11 rfl (lv_at hl 2 rfl) ?_
    obtain ⟨r12, hr12, hf⟩ := bn_e hf
    have hPc := hP.sub (ws' := (wM cs a M)) [0, 1, 2, 3, 4, 5, 6, 7, 8, 9, 10, 11] rfl
    refine vp_callSi (W.runV (As := [.int (x2)]) (rest := []) C (c_X8_isLoan l dC dI cs a M x2 r12 hr12) (cwV 1 hts gX8_loanThen_X8_isLoan rfl rfl rfl (by decide +kernel) ⟨Nat.le_of_ble_eq_true rfl, Nat.le_of_ble_eq_true rfl⟩) ⟨(fun a U g mk q => ⟨q.1, q.2.1, GE.calling q.2.2⟩), va_recv hK hPc (ci := 8) (q0 := 0) rfl rfl, (fun U hU hW => ⟨rfl, by rw [hU]; exact hPc, GE.warm hW G⟩)⟩ rfl rfl hl.1 rfl (lv_room (Nat.le_of_ble_eq_true rfl)) dX8_loanThen_12 ⟨Nat.le_of_ble_eq_true rfl, Nat.le_of_ble_eq_true rfl⟩) (fun qr12 hqr12 => ?_)
    obtain ⟨hqr12, hnr12⟩ := hqr12
    obtain rfl := hqr12.symm
    refine lv_if_eq (tgt := 27) hx hb dX8_loanThen_15 (by decide) (fun c2 => ?_) (fun c2 => ?_)
    · replace hf := it_t c2 hf
      exact b_X8_loanThen_27 C G hA hR M _ _ _ (lv_sub hl [0] rfl) hP hD hS hf
    · replace hf := it_f c2 hf
      refine lv_iload_n hx hb dX8_loanThen_18 rfl (lv_at hl 3 rfl) ?_
      refine lv_iconst (v := 0) hx hb dX8_loanThen_19 (by decide) ?_
      refine lv_iconst (v := 1) hx hb dX8_loanThen_20 (by decide) ?_
      obtain ⟨r21, hr21, hf⟩ := bn_e hf
      have hPc := hP.sub (ws' := ([] : va_W)) [] rfl
      refine vp_callSi (W.runS (As := [.int (x3), .int ((0 : Int32)), .int ((1 : Int32))]) (rest := []) C (c_X8_in l dC dI cs x3 (0 : Int32) (1 : Int32) r21 hr21) (va_cwS 3 hts gX8_loanThen_X8_in rfl rfl rfl (by decide +kernel) ⟨Nat.le_of_ble_eq_true rfl, Nat.le_of_ble_eq_true rfl⟩) ⟨(fun a U g mk q => ⟨q.1, q.2.1, GE.calling q.2.2⟩), (fun U hU hW => ⟨rfl, by rw [hU]; exact hPc, GE.warm hW G⟩)⟩ rfl rfl hl.1 rfl (lv_room (Nat.le_of_ble_eq_true rfl)) dX8_loanThen_21 ⟨Nat.le_of_ble_eq_true rfl, Nat.le_of_ble_eq_true rfl⟩) (fun qr21 hqr21 => ?_)
      obtain ⟨hqr21, hnr21⟩ := hqr21
      obtain rfl := hqr21.symm
      refine lv_if_ne (tgt := 32) hx hb dX8_loanThen_24 (by decide) (fun c3 => ?_) (fun c3 => ?_)
      · replace hf := it_f c3 hf
        refine lv_aload_n hx hb dX8_loanThen_32 rfl (lv_at hl 0 rfl) ?_
        refine lv_iload_n hx hb dX8_loanThen_33 rfl (lv_at hl 1 rfl) ?_
        obtain ⟨r34, hr34, hf⟩ := bn_e hf
        have hPc := hP.sub (ws' := (wM cs a M)) [0, 1, 2, 3, 4, 5, 6, 7, 8, 9, 10, 11] rfl
        have hDc := hD.sub (ws' := (wM cs a M)) [0, 1, 2, 3, 4, 5, 6, 7, 8, 9, 10, 11] (by decide) rfl
        have hFc := va_free (wc := (wM cs a M)) hD hS hA [0, 1, 2, 3, 4, 5, 6, 7, 8, 9, 10, 11] rfl
        refine va_callv (va_runV (As := [.int (x1)]) (rest := []) C (c_X8_goes l dC dI cs a s.heap.size M x1 r34 hr34) (cwV 1 hts gX8_loanThen_X8_goes rfl rfl rfl (by decide +kernel) ⟨Nat.le_of_ble_eq_true rfl, Nat.le_of_ble_eq_true rfl⟩) ⟨(fun a U g mk q => ⟨q.1, q.2.1, q.2.2.1, GE.calling q.2.2.2.1, q.2.2.2.2⟩), va_recv hK hPc (ci := 8) (q0 := 0) rfl rfl, (fun U hU hW => ⟨rfl, by rw [hU], by rw [hU]; exact hPc, GE.warm hW G, hDc.weaken (fun _ _ _ _ => trivial)⟩)⟩ rfl rfl hl.1 rfl (lv_room (Nat.le_of_ble_eq_true rfl)) dX8_loanThen_34 ⟨Nat.le_of_ble_eq_true rfl, Nat.le_of_ble_eq_true rfl⟩) hS (fun q _ h => hFc q h) hFc (fun u t H1 locs ht hvm hw hB hz1 hk1 hS => ?_)
        obtain rfl := hw.symm
        obtain ⟨hP1, hD1⟩ := hB
        rw [ht] at hP1
        obtain ⟨hP, hD⟩ := va_join (wr := []) (w1 := (wM cs a r34)) hP hD [0, 1, 2, 3, 4, 5, 6, 7, 8, 9, 10, 11] [] rfl rfl (by decide) (by decide) hk1 hFc hP1 hD1
        generalize H1 = H at hP hS ⊢
        have hP := hP.sub (ws' := (wM cs a r34)) [0, 1, 2, 3, 4, 5, 6, 7, 8, 9, 10, 11] rfl
        have hD := hD.sub (ws' := (wM cs a r34)) [0, 1, 2, 3, 4, 5, 6, 7, 8, 9, 10, 11] (by decide) rfl
        refine lv_aload_n hx hb dX8_loanThen_37 rfl (lv_at hl 0 rfl) ?_
        refine va_get (D := (dC, dI)) (ci := 8) (v := .ref (a 2)) (C := RX8) (T := TX8) (N := 20) hx hb hts in_X8_loanThen_X8 hown hK hP 0 rfl rfl 1 (by decide) (hts (.fieldLink RX8 13 "BackLoansModel" "tried" "[I") (by decide +kernel)) (fun _ h9 => h9) rfl dX8_loanThen_38 ?_
        refine lv_bipush (v := 26) hx hb dX8_loanThen_41 (by decide) ?_
        refine lv_iconst (v := 5) hx hb dX8_loanThen_43 (by decide) ?_
        refine lv_iload_n hx hb dX8_loanThen_44 rfl (lv_at hl 2 rfl) ?_
        refine lv_imul hx hb dX8_loanThen_45 ?_
        refine lv_iadd hx hb dX8_loanThen_46 ?_
        refine lv_iconst (v := 3) hx hb dX8_loanThen_47 (by decide) ?_
        refine lv_iadd hx hb dX8_loanThen_48 ?_
        refine lv_iload_n hx hb dX8_loanThen_49 rfl (lv_at hl 3 rfl) ?_
        refine lv_iadd hx hb dX8_loanThen_50 ?_
        obtain ⟨hi4, hf⟩ := gi_e hf
        refine va_iald hx hb hK hP 2 0 rfl rfl hi4 dX8_loanThen_51 ?_
        exact hR _ _ _ _ _ _ dX8_loanThen_52 hf hP hD hS
      · replace hf := it_t c3 hf
        exact b_X8_loanThen_27 C G hA hR M _ _ _ (lv_sub hl [0] rfl) hP hD hS hf

theorem in_X8_firstLack_X8 : ∀ w ∈ wsX80, w ∈ wsX8_firstLack := by decide +kernel
def f_X8_firstLack_2 (x1 : Int32) (x2 : Int32) (M : Ms) (K2 : Int32 → Ms → Option (Int32 × Ms)) : Option (Int32 × Ms) :=
  if x1 ≤ x2 then (
    some ((-1 : Int32), M)
  ) else (
    gi ((6 : Int32)) 362 <|
    lett ((M.2.2 1) ((6 : Int32)).toNatClampNeg) fun x3_14 =>
    bn (f_X8_month (0 : Int32) (M.2.2 1)) fun r20 =>
    lett ((M.1, M.2.1, va_up M.2.2 1 (r20.2))) fun M_20 =>
    gi ((6 : Int32)) 362 <|
    if ((M_20.2.2 1) ((6 : Int32)).toNatClampNeg) ≤ x3_14 then (
      lett (x2 + 1) fun x2_37 =>
      K2 x2_37 M_20
    ) else (
      some (x2, M_20)
    )
  )
set_option maxHeartbeats 4000000 in
set_option maxRecDepth 100000 in
theorem b_X8_firstLack_2 {p : Program} {l : Launch} {e : Env} {s : State} {m : MethodId} {args : Array Value} {below : List Frame} {meth : Method} {c : Code} {Q : State → Prop} {dC : Nat → ClassId} {dI : Nat → Nat → Nat} {cs : Nat → ClassId} {A : Nat → Prop} {a : Nat → Nat} {res : Int32 × Ms} (C : CallFix p m c cX8_firstLack 4 s args wsX8_firstLack RX8) (G : GE dC dI cs s) (hA : ∀ q : Nat, s.heap.size ≤ q → A q) (hR : RTi p l e ({ frames := 3, cells := 0, slots := 0, locals := 70 }) s m args below meth c cX8_firstLack Q (dC, dI) A (fun u : Ms => (wM cs a u)) res) (x1 : Int32) (x2 : Int32) (M : Ms) {K2 : Int32 → Ms → Option (Int32 × Ms)} (hK2 : ∀ (x2 : Int32) (M : Ms) (H : Heap) (locs : List Loc) (ls : Array Slot), lv_has ls 4 [(0, .ref (a 0)), (1, .int (x1)), (2, .int (x2))] → va_P (dC, dI) vwCl (wM cs a M) H → va_D A (wM cs a M) → va_S A s.heap H locs → K2 x2 M = some res → W p l e ({ frames := 3, cells := 0, slots := 0, locals := 70 }) s m args below meth c H locs 0 0 Q (F0 m 2 ls [])) (H : Heap) (locs : List Loc) (ls : Array Slot) (hl : lv_has ls 4 [(0, .ref (a 0)), (1, .int (x1)), (2, .int (x2))]) (hP : va_P (dC, dI) vwCl (wM cs a M) H) (hD : va_D A (wM cs a M)) (hS : va_S A s.heap H locs) (hf : f_X8_firstLack_2 x1 x2 M K2 = some res) : W p l e ({ frames := 3, cells := 0, slots := 0, locals := 70 }) s m args below meth c H locs 0 0 Q (F0 m 2 ls []) := by
  obtain ⟨hx, hb, hml, hown, hts⟩ := id C
  obtain ⟨hK, hN⟩ := id G
  unfold f_X8_firstLack_2 at hf
  refine lv_iload_n hx hb dX8_firstLack_2 rfl (lv_at hl 2 rfl) ?_
  refine lv_iload_n hx hb dX8_firstLack_3 rfl (lv_at hl 1 rfl) ?_
  refine lv_icmp_ge (tgt := 43) hx hb dX8_firstLack_4 (by decide) (fun c1 => ?_) (fun c1 => ?_)
  · replace hf := it_t c1 hf
    refine lv_iconst (v := -1) hx hb dX8_firstLack_43 (by decide) ?_
    exact hR _ _ _ _ _ _ dX8_firstLack_44 hf hP hD hS
  · replace hf := it_f c1 hf
    refine lv_aload_n hx hb dX8_firstLack_7 rfl (lv_at hl 0 rfl) ?_
    refine va_get (D := (dC, dI)) (ci := 8) (v := .ref (a 2)) (C := RX8) (T := TX8) (N := 20) hx hb hts in_X8_firstLack_X8 hown hK hP 0 rfl rfl 1 (by decide) (hts (.fieldLink RX8 13 "BackLoansModel" "tried" "[I") (by decide +kernel)) (fun _ h9 => h9) rfl dX8_firstLack_8 ?_
    refine lv_bipush (v := 6) hx hb dX8_firstLack_11 (by decide) ?_
    obtain ⟨hi2, hf⟩ := gi_e hf
    refine va_iald hx hb hK hP 2 0 rfl rfl hi2 dX8_firstLack_13 ?_
    refine lv_topi (fun x3_14 ex3_14 => ?_)
    replace hf := lett_s ex3_14 hf
    refine lv_istore_n (lv' := [(3, .int (x3_14)), (0, .ref (a 0)), (1, .int (x1)), (2, .int (x2))]) hx hb dX8_firstLack_14 rfl hl (by decide) rfl (fun ls hl => ?_)
    refine lv_aload_n hx hb dX8_firstLack_15 rfl (lv_at hl 1 rfl) ?_
    refine va_get (D := (dC, dI)) (ci := 8) (v := .ref (a 2)) (C := RX8) (T := TX8) (N := 20) hx hb hts in_X8_firstLack_X8 hown hK hP 0 rfl rfl 1 (by decide) (hts (.fieldLink RX8 13 "BackLoansModel" "tried" "[I") (by decide +kernel)) (fun _ h9 => h9) rfl dX8_firstLack_16 ?_
    refine lv_iconst (v := 0) hx hb dX8_firstLack_19 (by decide) ?_
    obtain ⟨r20, hr20, hf⟩ := bn_e hf
    have hPc := hP.sub (ws' := (wA cs (a 2) 362 (M.2.2 1))) [2] rfl
    have hDc := hD.sub (ws' := (wA cs (a 2) 362 (M.2.2 1))) [2] (by decide) rfl
    have hFc := va_free (wc := (wA cs (a 2) 362 (M.2.2 1))) hD hS hA [2] rfl
    refine va_calli (va_runS (As := [.ref (a 2), .int ((0 : Int32))]) (rest := []) C (c_X8_month l dC dI cs (a 2) H.size (M.2.2 1) (0 : Int32) r20 hr20) (va_cwS 2 hts gX8_firstLack_X8_month rfl rfl rfl (by decide +kernel) ⟨Nat.le_of_ble_eq_true rfl, Nat.le_of_ble_eq_true rfl⟩) ⟨(fun a U g mk q => ⟨q.1, q.2.1, q.2.2.1, GE.calling q.2.2.2.1, q.2.2.2.2⟩), (fun U hU hW => ⟨rfl, by rw [hU], by rw [hU]; exact hPc, GE.warm hW G, hDc.weaken (fun _ _ _ _ => trivial)⟩)⟩ rfl rfl hl.1 rfl (lv_room (Nat.le_of_ble_eq_true rfl)) dX8_firstLack_20 ⟨Nat.le_of_ble_eq_true rfl, Nat.le_of_ble_eq_true rfl⟩) hS (fun q _ h => hFc q h) hFc (fun q u t H1 locs ht hvm hw hB hz1 hk1 hS => ?_)
    obtain ⟨rfl, rfl⟩ := hw
    obtain ⟨hP1, hD1⟩ := hB
    rw [ht] at hP1
    obtain ⟨hP, hD⟩ := va_join (wr := [0, 1, 3, 4, 5, 6, 7, 8, 9, 10, 11].filterMap (fun i => ((wM cs a M))[i]?)) (w1 := (wA cs (a 2) 362 r20.2)) hP hD [2] [0, 1, 3, 4, 5, 6, 7, 8, 9, 10, 11] rfl rfl (by decide) (by decide) hk1 hFc hP1 hD1
    generalize H1 = H at hP hS ⊢
    have hP := hP.sub (ws' := (wM cs a (M.1, M.2.1, va_up M.2.2 1 (r20.2)))) [0, 1, 11, 2, 3, 4, 5, 6, 7, 8, 9, 10] rfl
    have hD := hD.sub (ws' := (wM cs a (M.1, M.2.1, va_up M.2.2 1 (r20.2)))) [0, 1, 11, 2, 3, 4, 5, 6, 7, 8, 9, 10] (by decide) rfl
    obtain ⟨M_20, hP, hD, hf⟩ := st_nm (ws := fun M_20 : Ms => (wM cs a M_20)) ((M.1, M.2.1, va_up M.2.2 1 (r20.2))) hP hD hf
    refine lv_pop hx hb dX8_firstLack_23 rfl ?_
    refine lv_aload_n hx hb dX8_firstLack_24 rfl (lv_at hl 1 rfl) ?_
    refine va_get (D := (dC, dI)) (ci := 8) (v := .ref (a 2)) (C := RX8) (T := TX8) (N := 20) hx hb hts in_X8_firstLack_X8 hown hK hP 0 rfl rfl 1 (by decide) (hts (.fieldLink RX8 13 "BackLoansModel" "tried" "[I") (by decide +kernel)) (fun _ h9 => h9) rfl dX8_firstLack_25 ?_
    refine lv_bipush (v := 6) hx hb dX8_firstLack_28 (by decide) ?_
    obtain ⟨hi3, hf⟩ := gi_e hf
    refine va_iald hx hb hK hP 2 0 rfl rfl hi3 dX8_firstLack_30 ?_
    refine lv_iload_n hx hb dX8_firstLack_31 rfl (lv_at hl 0 rfl) ?_
    refine lv_icmp_le (tgt := 37) hx hb dX8_firstLack_32 (by decide) (fun c4 => ?_) (fun c4 => ?_)
    · replace hf := it_t c4 hf
      obtain ⟨x2_37, ex2_37⟩ : ∃ y : Int32, y = (x2 + 1) := ⟨_, rfl⟩
      replace hf := lett_s ex2_37 hf
      refine lv_iinc (v := x2_37) (lv' := [(2, .int (x2_37)), (3, .int (x3_14)), (0, .ref (a 0)), (1, .int (x1))]) hx hb dX8_firstLack_37 hl (k := 3) rfl (by rw [ex2_37]; rfl) (by decide) rfl (fun ls hl => ?_)
      refine lv_goto (tgt := 2) hx hb dX8_firstLack_40 (by decide) ?_
      exact hK2 x2_37 M_20 _ _ _ (lv_sub hl [2, 3, 0] rfl) hP hD hS hf
    · replace hf := it_f c4 hf
      refine lv_iload_n hx hb dX8_firstLack_35 rfl (lv_at hl 3 rfl) ?_
      exact hR _ _ _ _ _ _ dX8_firstLack_36 hf hP hD hS
def l_X8_firstLack_2 (x1 : Int32)  (n : Nat) (x2 : Int32) (M : Ms) : Option (Int32 × Ms) := itr (fun (k : Int32 × Ms → Option (Int32 × Ms)) (z : Int32 × Ms) => f_X8_firstLack_2 x1 z.1 z.2 (fun x2 M => k (x2, M))) n (x2, M)
set_option maxHeartbeats 4000000 in
set_option maxRecDepth 100000 in
theorem w_X8_firstLack_2 {p : Program} {l : Launch} {e : Env} {s : State} {m : MethodId} {args : Array Value} {below : List Frame} {meth : Method} {c : Code} {Q : State → Prop} {dC : Nat → ClassId} {dI : Nat → Nat → Nat} {cs : Nat → ClassId} {A : Nat → Prop} {a : Nat → Nat} {res : Int32 × Ms} (C : CallFix p m c cX8_firstLack 4 s args wsX8_firstLack RX8) (G : GE dC dI cs s) (hA : ∀ q : Nat, s.heap.size ≤ q → A q) (hR : RTi p l e ({ frames := 3, cells := 0, slots := 0, locals := 70 }) s m args below meth c cX8_firstLack Q (dC, dI) A (fun u : Ms => (wM cs a u)) res) (x1 : Int32)   : ∀ (n : Nat) (x2 : Int32) (M : Ms) (H : Heap) (locs : List Loc) (ls : Array Slot), lv_has ls 4 [(0, .ref (a 0)), (1, .int (x1)), (2, .int (x2))] → va_P (dC, dI) vwCl (wM cs a M) H → va_D A (wM cs a M) → va_S A s.heap H locs → l_X8_firstLack_2 x1 n x2 M = some res → W p l e ({ frames := 3, cells := 0, slots := 0, locals := 70 }) s m args below meth c H locs 0 0 Q (F0 m 2 ls []) := by
  intro n
  induction n with
  | zero => intro x2 M H locs ls hl hP hD hS hf; exact absurd hf (by simp [l_X8_firstLack_2, itr])
  | succ n ih => intro x2 M H locs ls hl hP hD hS hf; exact b_X8_firstLack_2 C G hA hR x1 x2 M (K2 := fun x2 M => l_X8_firstLack_2 x1 n x2 M) (fun x2 M H locs ls hl hP hD hS hf => ih x2 M H locs ls hl hP hD hS hf) H locs ls hl hP hD hS hf
def f_X8_firstLack (x1 : Int32) (M : Ms) : Option (Int32 × Ms) :=
  lett (0 : Int32) fun x2_1 =>
  l_X8_firstLack_2 x1 FU x2_1 M
set_option maxHeartbeats 4000000 in
set_option maxRecDepth 100000 in
theorem c_X8_firstLack (l : Launch) (dC : Nat → ClassId) (dI : Nat → Nat → Nat) (cs : Nat → ClassId) (a : Nat → Nat) (sz : Nat) (M : Ms) (x1 : Int32) (res : Int32 × Ms) (hf : f_X8_firstLack x1 M = some res) : Met l yX8_firstLack wsX8_firstLack ({ frames := 3, cells := 0, slots := 0, locals := 70 }) (va_Pc [.ref (a 0), .int (x1)] (fun U => U.heap.size = sz ∧ va_P (dC, dI) vwCl (wM cs a M) U.heap ∧ GE dC dI cs U ∧ va_D (fun _ => True) (wM cs a M))) (va_Qi (fun r (u : Ms) => r = res.1 ∧ u = res.2) (fun u t => va_P (dC, dI) vwCl ((fun u : Ms => (wM cs a u)) u) t.heap ∧ va_D (va_A (wM cs a M) sz) ((fun u : Ms => (wM cs a u)) u)) (va_A (wM cs a M) sz)) 0 0 (va_A (wM cs a M) sz) := by
  refine Met.ofW (cc := cX8_firstLack) (maxL := 4) (ret := (some .int)) (by decide) rfl ?_
  intro p e s m args below meth c s₁ Bd hml hv
  obtain ⟨rfl, hsz, hP, G, hD0⟩ := hv
  have hts := atoms_spec (ws := wsX8_firstLack) Bd.pre
  have hown : s.vm.findClass RX8 = some m.cls := findClass_of_methodNamed Bd.named
  have hlocks := Bd.notSynchronized
  have hx := Bd.exec
  have hb := Bd.bytes
  have hr := Bd.returns
  have C : CallFix p m c cX8_firstLack 4 s _ wsX8_firstLack RX8 := ⟨hx, hb, hml, hown, hts⟩
  obtain ⟨hK, hN⟩ := id G
  subst hsz
  have hD := hD0.self (sz := s.heap.size)
  generalize hAe : va_A (wM cs a M) s.heap.size = A at hD ⊢
  have hA : ∀ q : Nat, s.heap.size ≤ q → A q := fun q h => by rw [← hAe]; exact Or.inr h
  have hS : va_S A s.heap s.heap [] := va_S.rf
  have hR : RTi p l e ({ frames := 3, cells := 0, slots := 0, locals := 70 }) s m ([.ref (a 0), .int (x1)] : List Value).toArray below meth c cX8_firstLack (MQ below (va_Qi (fun r (u : Ms) => r = res.1 ∧ u = res.2) (fun u t => va_P (dC, dI) vwCl ((fun u : Ms => (wM cs a u)) u) t.heap ∧ va_D A ((fun u : Ms => (wM cs a u)) u)) A) ([.ref (a 0), .int (x1)] : List Value).toArray s 0 0 A) (dC, dI) A (fun u : Ms => (wM cs a u)) res := fun H locs pc ls r u dd h hP hD hS => W.iret hx hb hr (fun t ht hW => ⟨⟨r, u, rfl, by cases h; exact ⟨rfl, rfl⟩, by rw [ht]; exact hP, hD⟩, hS.F ht⟩) hS.2.2 dd
  have hl := lv_entry ([.ref (a 0), .int (x1)]) (n := 4) (Nat.le_of_ble_eq_true rfl)
  rw [lg_entry_eq]
  generalize (lg_sl ([.ref (a 0), .int (x1)]) ++ List.replicate (4 - (lg_sl ([.ref (a 0), .int (x1)])).length) Slot.unset).toArray = ls at hl ⊢
  have hl : lv_has ls 4 [(0, .ref (a 0)), (1, .int (x1))] := hl
  unfold f_X8_firstLack at hf
  refine lv_iconst (v := 0) hx hb dX8_firstLack_0 (by decide) ?_
  refine lv_topi (fun x2_1 ex2_1 => ?_)
  replace hf := lett_s ex2_1 hf
  refine lv_istore_n (lv' := [(2, .int (x2_1)), (0, .ref (a 0)), (1, .int (x1))]) hx hb dX8_firstLack_1 rfl hl (by decide) rfl (fun ls hl => ?_)
  exact w_X8_firstLack_2 C G hA hR x1 FU x2_1 M _ _ _ (lv_sub hl [1, 2, 0] rfl) hP hD hS hf

def f_X8_lack (x1 : Int32) (M : Ms) : Option (Int32 × Ms) :=
  bn (f_X8_in x1 (0 : Int32) (60 : Int32)) fun r4 =>
  if r4 = 0 then (
    bn (f_X8_bad M) fun r11 =>
    some (r11.1, r11.2)
  ) else (
    bn (f_X8_tries M) fun r16 =>
    bn (f_X8_firstLack x1 r16) fun r21 =>
    some (r21.1, r21.2)
  )
set_option maxHeartbeats 4000000 in
set_option maxRecDepth 100000 in
theorem c_X8_lack (l : Launch) (dC : Nat → ClassId) (dI : Nat → Nat → Nat) (cs : Nat → ClassId) (a : Nat → Nat) (sz : Nat) (M : Ms) (x1 : Int32) (res : Int32 × Ms) (hf : f_X8_lack x1 M = some res) : Met l yX8_lack wsX8_lack ({ frames := 4, cells := 0, slots := 0, locals := 93 }) (va_Pc [.ref (a 0), .int (x1)] (fun U => U.heap.size = sz ∧ va_P (dC, dI) vwCl (wM cs a M) U.heap ∧ GE dC dI cs U ∧ va_D (fun _ => True) (wM cs a M))) (va_Qi (fun r (u : Ms) => r = res.1 ∧ u = res.2) (fun u t => va_P (dC, dI) vwCl ((fun u : Ms => (wM cs a u)) u) t.heap ∧ va_D (va_A (wM cs a M) sz) ((fun u : Ms => (wM cs a u)) u)) (va_A (wM cs a M) sz)) 0 0 (va_A (wM cs a M) sz) := by
  refine Met.ofW (cc := cX8_lack) (maxL := 2) (ret := (some .int)) (by decide) rfl ?_
  intro p e s m args below meth c s₁ Bd hml hv
  obtain ⟨rfl, hsz, hP, G, hD0⟩ := hv
  have hts := atoms_spec (ws := wsX8_lack) Bd.pre
  have hown : s.vm.findClass RX8 = some m.cls := findClass_of_methodNamed Bd.named
  have hlocks := Bd.notSynchronized
  have hx := Bd.exec
  have hb := Bd.bytes
  have hr := Bd.returns
  have C : CallFix p m c cX8_lack 2 s _ wsX8_lack RX8 := ⟨hx, hb, hml, hown, hts⟩
  obtain ⟨hK, hN⟩ := id G
  subst hsz
  have hD := hD0.self (sz := s.heap.size)
  generalize hAe : va_A (wM cs a M) s.heap.size = A at hD ⊢
  have hA : ∀ q : Nat, s.heap.size ≤ q → A q := fun q h => by rw [← hAe]; exact Or.inr h
  have hS : va_S A s.heap s.heap [] := va_S.rf
  have hR : RTi p l e ({ frames := 4, cells := 0, slots := 0, locals := 93 }) s m ([.ref (a 0), .int (x1)] : List Value).toArray below meth c cX8_lack (MQ below (va_Qi (fun r (u : Ms) => r = res.1 ∧ u = res.2) (fun u t => va_P (dC, dI) vwCl ((fun u : Ms => (wM cs a u)) u) t.heap ∧ va_D A ((fun u : Ms => (wM cs a u)) u)) A) ([.ref (a 0), .int (x1)] : List Value).toArray s 0 0 A) (dC, dI) A (fun u : Ms => (wM cs a u)) res := fun H locs pc ls r u dd h hP hD hS => W.iret hx hb hr (fun t ht hW => ⟨⟨r, u, rfl, by cases h; exact ⟨rfl, rfl⟩, by rw [ht]; exact hP, hD⟩, hS.F ht⟩) hS.2.2 dd
  have hl := lv_entry ([.ref (a 0), .int (x1)]) (n := 2) (Nat.le_of_ble_eq_true rfl)
  rw [lg_entry_eq]
  generalize (lg_sl ([.ref (a 0), .int (x1)]) ++ List.replicate (2 - (lg_sl ([.ref (a 0), .int (x1)])).length) Slot.unset).toArray = ls at hl ⊢
  have hl : lv_has ls 2 [(0, .ref (a 0)), (1, .int (x1))] := hl
  unfold f_X8_lack at hf
  refine lv_iload_n hx hb dX8_lack_0 rfl (lv_at hl 1 rfl) ?_
  refine lv_iconst (v := 0) hx hb dX8_lack_1 (by decide) ?_
  refine lv_bipush (v := 60) hx hb dX8_lack_2 (by decide) ?_
  obtain ⟨r4, hr4, hf⟩ := bn_e hf
  have hPc := hP.sub (ws' := ([] : va_W)) [] rfl
  refine vp_callSi (W.runS (As := [.int (x1), .int ((0 : Int32)), .int ((60 : Int32))]) (rest := []) C (c_X8_in l dC dI cs x1 (0 : Int32) (60 : Int32) r4 hr4) (va_cwS 3 hts gX8_lack_X8_in rfl rfl rfl (by decide +kernel) ⟨Nat.le_of_ble_eq_true rfl, Nat.le_of_ble_eq_true rfl⟩) ⟨(fun a U g mk q => ⟨q.1, q.2.1, GE.calling q.2.2⟩), (fun U hU hW => ⟨rfl, by rw [hU]; exact hPc, GE.warm hW G⟩)⟩ rfl rfl hl.1 rfl (lv_room (Nat.le_of_ble_eq_true rfl)) dX8_lack_4 ⟨Nat.le_of_ble_eq_true rfl, Nat.le_of_ble_eq_true rfl⟩) (fun qr4 hqr4 => ?_)
  obtain ⟨hqr4, hnr4⟩ := hqr4
  obtain rfl := hqr4.symm
  refine lv_if_ne (tgt := 15) hx hb dX8_lack_7 (by decide) (fun c1 => ?_) (fun c1 => ?_)
  · replace hf := it_f c1 hf
    refine lv_aload_n hx hb dX8_lack_15 rfl (lv_at hl 0 rfl) ?_
    obtain ⟨r16, hr16, hf⟩ := bn_e hf
    have hPc := hP.sub (ws' := (wM cs a M)) [0, 1, 2, 3, 4, 5, 6, 7, 8, 9, 10, 11] rfl
    have hDc := hD.sub (ws' := (wM cs a M)) [0, 1, 2, 3, 4, 5, 6, 7, 8, 9, 10, 11] (by decide) rfl
    have hFc := va_free (wc := (wM cs a M)) hD hS hA [0, 1, 2, 3, 4, 5, 6, 7, 8, 9, 10, 11] rfl
    refine va_callv (va_runV (As := []) (rest := []) C (c_X8_tries l dC dI cs a s.heap.size M r16 hr16) (cwV 0 hts gX8_lack_X8_tries rfl rfl rfl (by decide +kernel) ⟨Nat.le_of_ble_eq_true rfl, Nat.le_of_ble_eq_true rfl⟩) ⟨(fun a U g mk q => ⟨q.1, q.2.1, q.2.2.1, GE.calling q.2.2.2.1, q.2.2.2.2⟩), va_recv hK hPc (ci := 8) (q0 := 0) rfl rfl, (fun U hU hW => ⟨rfl, by rw [hU], by rw [hU]; exact hPc, GE.warm hW G, hDc.weaken (fun _ _ _ _ => trivial)⟩)⟩ rfl rfl hl.1 rfl (lv_room (Nat.le_of_ble_eq_true rfl)) dX8_lack_16 ⟨Nat.le_of_ble_eq_true rfl, Nat.le_of_ble_eq_true rfl⟩) hS (fun q _ h => hFc q h) hFc (fun u t H1 locs ht hvm hw hB hz1 hk1 hS => ?_)
    obtain rfl := hw.symm
    obtain ⟨hP1, hD1⟩ := hB
    rw [ht] at hP1
    obtain ⟨hP, hD⟩ := va_join (wr := []) (w1 := (wM cs a r16)) hP hD [0, 1, 2, 3, 4, 5, 6, 7, 8, 9, 10, 11] [] rfl rfl (by decide) (by decide) hk1 hFc hP1 hD1
    generalize H1 = H at hP hS ⊢
    have hP := hP.sub (ws' := (wM cs a r16)) [0, 1, 2, 3, 4, 5, 6, 7, 8, 9, 10, 11] rfl
    have hD := hD.sub (ws' := (wM cs a r16)) [0, 1, 2, 3, 4, 5, 6, 7, 8, 9, 10, 11] (by decide) rfl
    refine lv_aload_n hx hb dX8_lack_19 rfl (lv_at hl 0 rfl) ?_
    refine lv_iload_n hx hb dX8_lack_20 rfl (lv_at hl 1 rfl) ?_
    obtain ⟨r21, hr21, hf⟩ := bn_e hf
    have hPc := hP.sub (ws' := (wM cs a r16)) [0, 1, 2, 3, 4, 5, 6, 7, 8, 9, 10, 11] rfl
    have hDc := hD.sub (ws' := (wM cs a r16)) [0, 1, 2, 3, 4, 5, 6, 7, 8, 9, 10, 11] (by decide) rfl
    have hFc := va_free (wc := (wM cs a r16)) hD hS hA [0, 1, 2, 3, 4, 5, 6, 7, 8, 9, 10, 11] rfl
    refine va_calli (va_runV (As := [.int (x1)]) (rest := []) C (c_X8_firstLack l dC dI cs a H.size r16 x1 r21 hr21) (cwV 1 hts gX8_lack_X8_firstLack rfl rfl rfl (by decide +kernel) ⟨Nat.le_of_ble_eq_true rfl, Nat.le_of_ble_eq_true rfl⟩) ⟨(fun a U g mk q => ⟨q.1, q.2.1, q.2.2.1, GE.calling q.2.2.2.1, q.2.2.2.2⟩), va_recv hK hPc (ci := 8) (q0 := 0) rfl rfl, (fun U hU hW => ⟨rfl, by rw [hU], by rw [hU]; exact hPc, GE.warm hW G, hDc.weaken (fun _ _ _ _ => trivial)⟩)⟩ rfl rfl hl.1 rfl (lv_room (Nat.le_of_ble_eq_true rfl)) dX8_lack_21 ⟨Nat.le_of_ble_eq_true rfl, Nat.le_of_ble_eq_true rfl⟩) hS (fun q _ h => hFc q h) hFc (fun q u t H1 locs ht hvm hw hB hz1 hk1 hS => ?_)
    obtain ⟨rfl, rfl⟩ := hw
    obtain ⟨hP1, hD1⟩ := hB
    rw [ht] at hP1
    obtain ⟨hP, hD⟩ := va_join (wr := []) (w1 := (wM cs a r21.2)) hP hD [0, 1, 2, 3, 4, 5, 6, 7, 8, 9, 10, 11] [] rfl rfl (by decide) (by decide) hk1 hFc hP1 hD1
    generalize H1 = H at hP hS ⊢
    have hP := hP.sub (ws' := (wM cs a r21.2)) [0, 1, 2, 3, 4, 5, 6, 7, 8, 9, 10, 11] rfl
    have hD := hD.sub (ws' := (wM cs a r21.2)) [0, 1, 2, 3, 4, 5, 6, 7, 8, 9, 10, 11] (by decide) rfl
    exact hR _ _ _ _ _ _ dX8_lack_24 hf hP hD hS
  · replace hf := it_t c1 hf
    refine lv_aload_n hx hb dX8_lack_10 rfl (lv_at hl 0 rfl) ?_
    obtain ⟨r11, hr11, hf⟩ := bn_e hf
    have hPc := hP.sub (ws' := (wM cs a M)) [0, 1, 2, 3, 4, 5, 6, 7, 8, 9, 10, 11] rfl
    have hDc := hD.sub (ws' := (wM cs a M)) [0, 1, 2, 3, 4, 5, 6, 7, 8, 9, 10, 11] (by decide) rfl
    have hFc := va_free (wc := (wM cs a M)) hD hS hA [0, 1, 2, 3, 4, 5, 6, 7, 8, 9, 10, 11] rfl
    refine va_calli (va_runV (As := []) (rest := []) C (c_X8_bad l dC dI cs a s.heap.size M r11 hr11) (cwV 0 hts gX8_lack_X8_bad rfl rfl rfl (by decide +kernel) ⟨Nat.le_of_ble_eq_true rfl, Nat.le_of_ble_eq_true rfl⟩) ⟨(fun a U g mk q => ⟨q.1, q.2.1, q.2.2.1, GE.calling q.2.2.2.1, q.2.2.2.2⟩), va_recv hK hPc (ci := 8) (q0 := 0) rfl rfl, (fun U hU hW => ⟨rfl, by rw [hU], by rw [hU]; exact hPc, GE.warm hW G, hDc.weaken (fun _ _ _ _ => trivial)⟩)⟩ rfl rfl hl.1 rfl (lv_room (Nat.le_of_ble_eq_true rfl)) dX8_lack_11 ⟨Nat.le_of_ble_eq_true rfl, Nat.le_of_ble_eq_true rfl⟩) hS (fun q _ h => hFc q h) hFc (fun q u t H1 locs ht hvm hw hB hz1 hk1 hS => ?_)
    obtain ⟨rfl, rfl⟩ := hw
    obtain ⟨hP1, hD1⟩ := hB
    rw [ht] at hP1
    obtain ⟨hP, hD⟩ := va_join (wr := []) (w1 := (wM cs a r11.2)) hP hD [0, 1, 2, 3, 4, 5, 6, 7, 8, 9, 10, 11] [] rfl rfl (by decide) (by decide) hk1 hFc hP1 hD1
    generalize H1 = H at hP hS ⊢
    have hP := hP.sub (ws' := (wM cs a r11.2)) [0, 1, 2, 3, 4, 5, 6, 7, 8, 9, 10, 11] rfl
    have hD := hD.sub (ws' := (wM cs a r11.2)) [0, 1, 2, 3, 4, 5, 6, 7, 8, 9, 10, 11] (by decide) rfl
    exact hR _ _ _ _ _ _ dX8_lack_14 hf hP hD hS

theorem in_X8_holds_X8 : ∀ w ∈ wsX80, w ∈ wsX8_holds := by decide +kernel
def f_X8_holds_17 (x1 : Int32) (x2 : Int32) (M : Ms) (K17 : Int32 → Ms → Option (Int32 × Ms)) : Option (Int32 × Ms) :=
  if (10000 : Int32) ≤ x2 then (
    some ((-1 : Int32), M)
  ) else (
    bn (f_X8_tries M) fun r25 =>
    gi ((0 : Int32)) 362 <|
    lett ((r25.1, r25.2.1, va_up r25.2.2 1 (upd (r25.2.2 1) ((0 : Int32)).toNatClampNeg (x2)))) fun M_34 =>
    bn (f_X8_firstLack x1 M_34) fun r37 =>
    if r37.1 = (-1 : Int32) then (
      some (x2, r37.2)
    ) else (
      lett (x2 + 1) fun x2_46 =>
      K17 x2_46 r37.2
    )
  )
set_option maxHeartbeats 4000000 in
set_option maxRecDepth 100000 in
theorem b_X8_holds_17 {p : Program} {l : Launch} {e : Env} {s : State} {m : MethodId} {args : Array Value} {below : List Frame} {meth : Method} {c : Code} {Q : State → Prop} {dC : Nat → ClassId} {dI : Nat → Nat → Nat} {cs : Nat → ClassId} {A : Nat → Prop} {a : Nat → Nat} {res : Int32 × Ms} (C : CallFix p m c cX8_holds 3 s args wsX8_holds RX8) (G : GE dC dI cs s) (hA : ∀ q : Nat, s.heap.size ≤ q → A q) (hR : RTi p l e ({ frames := 4, cells := 0, slots := 0, locals := 93 }) s m args below meth c cX8_holds Q (dC, dI) A (fun u : Ms => (wM cs a u)) res) (x1 : Int32) (x2 : Int32) (M : Ms) {K17 : Int32 → Ms → Option (Int32 × Ms)} (hK17 : ∀ (x2 : Int32) (M : Ms) (H : Heap) (locs : List Loc) (ls : Array Slot), lv_has ls 3 [(0, .ref (a 0)), (1, .int (x1)), (2, .int (x2))] → va_P (dC, dI) vwCl (wM cs a M) H → va_D A (wM cs a M) → va_S A s.heap H locs → K17 x2 M = some res → W p l e ({ frames := 4, cells := 0, slots := 0, locals := 93 }) s m args below meth c H locs 0 0 Q (F0 m 17 ls [])) (H : Heap) (locs : List Loc) (ls : Array Slot) (hl : lv_has ls 3 [(0, .ref (a 0)), (1, .int (x1)), (2, .int (x2))]) (hP : va_P (dC, dI) vwCl (wM cs a M) H) (hD : va_D A (wM cs a M)) (hS : va_S A s.heap H locs) (hf : f_X8_holds_17 x1 x2 M K17 = some res) : W p l e ({ frames := 4, cells := 0, slots := 0, locals := 93 }) s m args below meth c H locs 0 0 Q (F0 m 17 ls []) := by
  obtain ⟨hx, hb, hml, hown, hts⟩ := id C
  obtain ⟨hK, hN⟩ := id G
  unfold f_X8_holds_17 at hf
  refine lv_iload_n hx hb dX8_holds_17 rfl (lv_at hl 2 rfl) ?_
  refine lv_sipush (v := 10000) hx hb dX8_holds_18 (by decide) ?_
  refine lv_icmp_ge (tgt := 52) hx hb dX8_holds_21 (by decide) (fun c1 => ?_) (fun c1 => ?_)
  · replace hf := it_t c1 hf
    refine lv_iconst (v := -1) hx hb dX8_holds_52 (by decide) ?_
    exact hR _ _ _ _ _ _ dX8_holds_53 hf hP hD hS
  · replace hf := it_f c1 hf
    refine lv_aload_n hx hb dX8_holds_24 rfl (lv_at hl 0 rfl) ?_
    obtain ⟨r25, hr25, hf⟩ := bn_e hf
    have hPc := hP.sub (ws' := (wM cs a M)) [0, 1, 2, 3, 4, 5, 6, 7, 8, 9, 10, 11] rfl
    have hDc := hD.sub (ws' := (wM cs a M)) [0, 1, 2, 3, 4, 5, 6, 7, 8, 9, 10, 11] (by decide) rfl
    have hFc := va_free (wc := (wM cs a M)) hD hS hA [0, 1, 2, 3, 4, 5, 6, 7, 8, 9, 10, 11] rfl
    refine va_callv (va_runV (As := []) (rest := []) C (c_X8_tries l dC dI cs a H.size M r25 hr25) (cwV 0 hts gX8_holds_X8_tries rfl rfl rfl (by decide +kernel) ⟨Nat.le_of_ble_eq_true rfl, Nat.le_of_ble_eq_true rfl⟩) ⟨(fun a U g mk q => ⟨q.1, q.2.1, q.2.2.1, GE.calling q.2.2.2.1, q.2.2.2.2⟩), va_recv hK hPc (ci := 8) (q0 := 0) rfl rfl, (fun U hU hW => ⟨rfl, by rw [hU], by rw [hU]; exact hPc, GE.warm hW G, hDc.weaken (fun _ _ _ _ => trivial)⟩)⟩ rfl rfl hl.1 rfl (lv_room (Nat.le_of_ble_eq_true rfl)) dX8_holds_25 ⟨Nat.le_of_ble_eq_true rfl, Nat.le_of_ble_eq_true rfl⟩) hS (fun q _ h => hFc q h) hFc (fun u t H1 locs ht hvm hw hB hz1 hk1 hS => ?_)
    obtain rfl := hw.symm
    obtain ⟨hP1, hD1⟩ := hB
    rw [ht] at hP1
    obtain ⟨hP, hD⟩ := va_join (wr := []) (w1 := (wM cs a r25)) hP hD [0, 1, 2, 3, 4, 5, 6, 7, 8, 9, 10, 11] [] rfl rfl (by decide) (by decide) hk1 hFc hP1 hD1
    generalize H1 = H at hP hS ⊢
    have hP := hP.sub (ws' := (wM cs a r25)) [0, 1, 2, 3, 4, 5, 6, 7, 8, 9, 10, 11] rfl
    have hD := hD.sub (ws' := (wM cs a r25)) [0, 1, 2, 3, 4, 5, 6, 7, 8, 9, 10, 11] (by decide) rfl
    refine lv_aload_n hx hb dX8_holds_28 rfl (lv_at hl 0 rfl) ?_
    refine va_get (D := (dC, dI)) (ci := 8) (v := .ref (a 2)) (C := RX8) (T := TX8) (N := 20) hx hb hts in_X8_holds_X8 hown hK hP 0 rfl rfl 1 (by decide) (hts (.fieldLink RX8 13 "BackLoansModel" "tried" "[I") (by decide +kernel)) (fun _ h9 => h9) rfl dX8_holds_29 ?_
    refine lv_iconst (v := 0) hx hb dX8_holds_32 (by decide) ?_
    refine lv_iload_n hx hb dX8_holds_33 rfl (lv_at hl 2 rfl) ?_
    obtain ⟨hi2, hf⟩ := gi_e hf
    refine va_iast hx hb hK hP hD hS 2 0 rfl rfl hi2 dX8_holds_34 (fun H locs hP hD hS => ?_)
    obtain ⟨M_34, hP, hD, hf⟩ := st_nm (ws := fun M_34 : Ms => (wM cs a M_34)) ((r25.1, r25.2.1, va_up r25.2.2 1 (upd (r25.2.2 1) ((0 : Int32)).toNatClampNeg (x2)))) hP hD hf
    refine lv_aload_n hx hb dX8_holds_35 rfl (lv_at hl 0 rfl) ?_
    refine lv_iload_n hx hb dX8_holds_36 rfl (lv_at hl 1 rfl) ?_
    obtain ⟨r37, hr37, hf⟩ := bn_e hf
    have hPc := hP.sub (ws' := (wM cs a M_34)) [0, 1, 2, 3, 4, 5, 6, 7, 8, 9, 10, 11] rfl
    have hDc := hD.sub (ws' := (wM cs a M_34)) [0, 1, 2, 3, 4, 5, 6, 7, 8, 9, 10, 11] (by decide) rfl
    have hFc := va_free (wc := (wM cs a M_34)) hD hS hA [0, 1, 2, 3, 4, 5, 6, 7, 8, 9, 10, 11] rfl
    refine va_calli (va_runV (As := [.int (x1)]) (rest := []) C (c_X8_firstLack l dC dI cs a H.size M_34 x1 r37 hr37) (cwV 1 hts gX8_holds_X8_firstLack rfl rfl rfl (by decide +kernel) ⟨Nat.le_of_ble_eq_true rfl, Nat.le_of_ble_eq_true rfl⟩) ⟨(fun a U g mk q => ⟨q.1, q.2.1, q.2.2.1, GE.calling q.2.2.2.1, q.2.2.2.2⟩), va_recv hK hPc (ci := 8) (q0 := 0) rfl rfl, (fun U hU hW => ⟨rfl, by rw [hU], by rw [hU]; exact hPc, GE.warm hW G, hDc.weaken (fun _ _ _ _ => trivial)⟩)⟩ rfl rfl hl.1 rfl (lv_room (Nat.le_of_ble_eq_true rfl)) dX8_holds_37 ⟨Nat.le_of_ble_eq_true rfl, Nat.le_of_ble_eq_true rfl⟩) hS (fun q _ h => hFc q h) hFc (fun q u t H1 locs ht hvm hw hB hz1 hk1 hS => ?_)
    obtain ⟨rfl, rfl⟩ := hw
    obtain ⟨hP1, hD1⟩ := hB
    rw [ht] at hP1
    obtain ⟨hP, hD⟩ := va_join (wr := []) (w1 := (wM cs a r37.2)) hP hD [0, 1, 2, 3, 4, 5, 6, 7, 8, 9, 10, 11] [] rfl rfl (by decide) (by decide) hk1 hFc hP1 hD1
    generalize H1 = H at hP hS ⊢
    have hP := hP.sub (ws' := (wM cs a r37.2)) [0, 1, 2, 3, 4, 5, 6, 7, 8, 9, 10, 11] rfl
    have hD := hD.sub (ws' := (wM cs a r37.2)) [0, 1, 2, 3, 4, 5, 6, 7, 8, 9, 10, 11] (by decide) rfl
    refine lv_iconst (v := -1) hx hb dX8_holds_40 (by decide) ?_
    refine lv_icmp_ne (tgt := 46) hx hb dX8_holds_41 (by decide) (fun c3 => ?_) (fun c3 => ?_)
    · replace hf := it_f c3 hf
      obtain ⟨x2_46, ex2_46⟩ : ∃ y : Int32, y = (x2 + 1) := ⟨_, rfl⟩
      replace hf := lett_s ex2_46 hf
      refine lv_iinc (v := x2_46) (lv' := [(2, .int (x2_46)), (0, .ref (a 0)), (1, .int (x1))]) hx hb dX8_holds_46 hl (k := 2) rfl (by rw [ex2_46]; rfl) (by decide) rfl (fun ls hl => ?_)
      refine lv_goto (tgt := 17) hx hb dX8_holds_49 (by decide) ?_
      exact hK17 x2_46 r37.2 _ _ _ (lv_sub hl [1, 2, 0] rfl) hP hD hS hf
    · replace hf := it_t c3 hf
      refine lv_iload_n hx hb dX8_holds_44 rfl (lv_at hl 2 rfl) ?_
      exact hR _ _ _ _ _ _ dX8_holds_45 hf hP hD hS
def l_X8_holds_17 (x1 : Int32)  (n : Nat) (x2 : Int32) (M : Ms) : Option (Int32 × Ms) := itr (fun (k : Int32 × Ms → Option (Int32 × Ms)) (z : Int32 × Ms) => f_X8_holds_17 x1 z.1 z.2 (fun x2 M => k (x2, M))) n (x2, M)
set_option maxHeartbeats 4000000 in
set_option maxRecDepth 100000 in
theorem w_X8_holds_17 {p : Program} {l : Launch} {e : Env} {s : State} {m : MethodId} {args : Array Value} {below : List Frame} {meth : Method} {c : Code} {Q : State → Prop} {dC : Nat → ClassId} {dI : Nat → Nat → Nat} {cs : Nat → ClassId} {A : Nat → Prop} {a : Nat → Nat} {res : Int32 × Ms} (C : CallFix p m c cX8_holds 3 s args wsX8_holds RX8) (G : GE dC dI cs s) (hA : ∀ q : Nat, s.heap.size ≤ q → A q) (hR : RTi p l e ({ frames := 4, cells := 0, slots := 0, locals := 93 }) s m args below meth c cX8_holds Q (dC, dI) A (fun u : Ms => (wM cs a u)) res) (x1 : Int32)   : ∀ (n : Nat) (x2 : Int32) (M : Ms) (H : Heap) (locs : List Loc) (ls : Array Slot), lv_has ls 3 [(0, .ref (a 0)), (1, .int (x1)), (2, .int (x2))] → va_P (dC, dI) vwCl (wM cs a M) H → va_D A (wM cs a M) → va_S A s.heap H locs → l_X8_holds_17 x1 n x2 M = some res → W p l e ({ frames := 4, cells := 0, slots := 0, locals := 93 }) s m args below meth c H locs 0 0 Q (F0 m 17 ls []) := by
  intro n
  induction n with
  | zero => intro x2 M H locs ls hl hP hD hS hf; exact absurd hf (by simp [l_X8_holds_17, itr])
  | succ n ih => intro x2 M H locs ls hl hP hD hS hf; exact b_X8_holds_17 C G hA hR x1 x2 M (K17 := fun x2 M => l_X8_holds_17 x1 n x2 M) (fun x2 M H locs ls hl hP hD hS hf => ih x2 M H locs ls hl hP hD hS hf) H locs ls hl hP hD hS hf
def f_X8_holds (x1 : Int32) (M : Ms) : Option (Int32 × Ms) :=
  bn (f_X8_in x1 (0 : Int32) (60 : Int32)) fun r4 =>
  if r4 = 0 then (
    bn (f_X8_bad M) fun r11 =>
    some (r11.1, r11.2)
  ) else (
    lett (0 : Int32) fun x2_16 =>
    l_X8_holds_17 x1 FU x2_16 M
  )
set_option maxHeartbeats 4000000 in
set_option maxRecDepth 100000 in
theorem c_X8_holds (l : Launch) (dC : Nat → ClassId) (dI : Nat → Nat → Nat) (cs : Nat → ClassId) (a : Nat → Nat) (sz : Nat) (M : Ms) (x1 : Int32) (res : Int32 × Ms) (hf : f_X8_holds x1 M = some res) : Met l yX8_holds wsX8_holds ({ frames := 4, cells := 0, slots := 0, locals := 93 }) (va_Pc [.ref (a 0), .int (x1)] (fun U => U.heap.size = sz ∧ va_P (dC, dI) vwCl (wM cs a M) U.heap ∧ GE dC dI cs U ∧ va_D (fun _ => True) (wM cs a M))) (va_Qi (fun r (u : Ms) => r = res.1 ∧ u = res.2) (fun u t => va_P (dC, dI) vwCl ((fun u : Ms => (wM cs a u)) u) t.heap ∧ va_D (va_A (wM cs a M) sz) ((fun u : Ms => (wM cs a u)) u)) (va_A (wM cs a M) sz)) 0 0 (va_A (wM cs a M) sz) := by
  refine Met.ofW (cc := cX8_holds) (maxL := 3) (ret := (some .int)) (by decide) rfl ?_
  intro p e s m args below meth c s₁ Bd hml hv
  obtain ⟨rfl, hsz, hP, G, hD0⟩ := hv
  have hts := atoms_spec (ws := wsX8_holds) Bd.pre
  have hown : s.vm.findClass RX8 = some m.cls := findClass_of_methodNamed Bd.named
  have hlocks := Bd.notSynchronized
  have hx := Bd.exec
  have hb := Bd.bytes
  have hr := Bd.returns
  have C : CallFix p m c cX8_holds 3 s _ wsX8_holds RX8 := ⟨hx, hb, hml, hown, hts⟩
  obtain ⟨hK, hN⟩ := id G
  subst hsz
  have hD := hD0.self (sz := s.heap.size)
  generalize hAe : va_A (wM cs a M) s.heap.size = A at hD ⊢
  have hA : ∀ q : Nat, s.heap.size ≤ q → A q := fun q h => by rw [← hAe]; exact Or.inr h
  have hS : va_S A s.heap s.heap [] := va_S.rf
  have hR : RTi p l e ({ frames := 4, cells := 0, slots := 0, locals := 93 }) s m ([.ref (a 0), .int (x1)] : List Value).toArray below meth c cX8_holds (MQ below (va_Qi (fun r (u : Ms) => r = res.1 ∧ u = res.2) (fun u t => va_P (dC, dI) vwCl ((fun u : Ms => (wM cs a u)) u) t.heap ∧ va_D A ((fun u : Ms => (wM cs a u)) u)) A) ([.ref (a 0), .int (x1)] : List Value).toArray s 0 0 A) (dC, dI) A (fun u : Ms => (wM cs a u)) res := fun H locs pc ls r u dd h hP hD hS => W.iret hx hb hr (fun t ht hW => ⟨⟨r, u, rfl, by cases h; exact ⟨rfl, rfl⟩, by rw [ht]; exact hP, hD⟩, hS.F ht⟩) hS.2.2 dd
  have hl := lv_entry ([.ref (a 0), .int (x1)]) (n := 3) (Nat.le_of_ble_eq_true rfl)
  rw [lg_entry_eq]
  generalize (lg_sl ([.ref (a 0), .int (x1)]) ++ List.replicate (3 - (lg_sl ([.ref (a 0), .int (x1)])).length) Slot.unset).toArray = ls at hl ⊢
  have hl : lv_has ls 3 [(0, .ref (a 0)), (1, .int (x1))] := hl
  unfold f_X8_holds at hf
  refine lv_iload_n hx hb dX8_holds_0 rfl (lv_at hl 1 rfl) ?_
  refine lv_iconst (v := 0) hx hb dX8_holds_1 (by decide) ?_
  refine lv_bipush (v := 60) hx hb dX8_holds_2 (by decide) ?_
  obtain ⟨r4, hr4, hf⟩ := bn_e hf
  have hPc := hP.sub (ws' := ([] : va_W)) [] rfl
  refine vp_callSi (W.runS (As := [.int (x1), .int ((0 : Int32)), .int ((60 : Int32))]) (rest := []) C (c_X8_in l dC dI cs x1 (0 : Int32) (60 : Int32) r4 hr4) (va_cwS 3 hts gX8_holds_X8_in rfl rfl rfl (by decide +kernel) ⟨Nat.le_of_ble_eq_true rfl, Nat.le_of_ble_eq_true rfl⟩) ⟨(fun a U g mk q => ⟨q.1, q.2.1, GE.calling q.2.2⟩), (fun U hU hW => ⟨rfl, by rw [hU]; exact hPc, GE.warm hW G⟩)⟩ rfl rfl hl.1 rfl (lv_room (Nat.le_of_ble_eq_true rfl)) dX8_holds_4 ⟨Nat.le_of_ble_eq_true rfl, Nat.le_of_ble_eq_true rfl⟩) (fun qr4 hqr4 => ?_)
  obtain ⟨hqr4, hnr4⟩ := hqr4
  obtain rfl := hqr4.symm
  refine lv_if_ne (tgt := 15) hx hb dX8_holds_7 (by decide) (fun c1 => ?_) (fun c1 => ?_)
  · replace hf := it_f c1 hf
    refine lv_iconst (v := 0) hx hb dX8_holds_15 (by decide) ?_
    refine lv_topi (fun x2_16 ex2_16 => ?_)
    replace hf := lett_s ex2_16 hf
    refine lv_istore_n (lv' := [(2, .int (x2_16)), (0, .ref (a 0)), (1, .int (x1))]) hx hb dX8_holds_16 rfl hl (by decide) rfl (fun ls hl => ?_)
    exact w_X8_holds_17 C G hA hR x1 FU x2_16 M _ _ _ (lv_sub hl [1, 2, 0] rfl) hP hD hS hf
  · replace hf := it_t c1 hf
    refine lv_aload_n hx hb dX8_holds_10 rfl (lv_at hl 0 rfl) ?_
    obtain ⟨r11, hr11, hf⟩ := bn_e hf
    have hPc := hP.sub (ws' := (wM cs a M)) [0, 1, 2, 3, 4, 5, 6, 7, 8, 9, 10, 11] rfl
    have hDc := hD.sub (ws' := (wM cs a M)) [0, 1, 2, 3, 4, 5, 6, 7, 8, 9, 10, 11] (by decide) rfl
    have hFc := va_free (wc := (wM cs a M)) hD hS hA [0, 1, 2, 3, 4, 5, 6, 7, 8, 9, 10, 11] rfl
    refine va_calli (va_runV (As := []) (rest := []) C (c_X8_bad l dC dI cs a s.heap.size M r11 hr11) (cwV 0 hts gX8_holds_X8_bad rfl rfl rfl (by decide +kernel) ⟨Nat.le_of_ble_eq_true rfl, Nat.le_of_ble_eq_true rfl⟩) ⟨(fun a U g mk q => ⟨q.1, q.2.1, q.2.2.1, GE.calling q.2.2.2.1, q.2.2.2.2⟩), va_recv hK hPc (ci := 8) (q0 := 0) rfl rfl, (fun U hU hW => ⟨rfl, by rw [hU], by rw [hU]; exact hPc, GE.warm hW G, hDc.weaken (fun _ _ _ _ => trivial)⟩)⟩ rfl rfl hl.1 rfl (lv_room (Nat.le_of_ble_eq_true rfl)) dX8_holds_11 ⟨Nat.le_of_ble_eq_true rfl, Nat.le_of_ble_eq_true rfl⟩) hS (fun q _ h => hFc q h) hFc (fun q u t H1 locs ht hvm hw hB hz1 hk1 hS => ?_)
    obtain ⟨rfl, rfl⟩ := hw
    obtain ⟨hP1, hD1⟩ := hB
    rw [ht] at hP1
    obtain ⟨hP, hD⟩ := va_join (wr := []) (w1 := (wM cs a r11.2)) hP hD [0, 1, 2, 3, 4, 5, 6, 7, 8, 9, 10, 11] [] rfl rfl (by decide) (by decide) hk1 hFc hP1 hD1
    generalize H1 = H at hP hS ⊢
    have hP := hP.sub (ws' := (wM cs a r11.2)) [0, 1, 2, 3, 4, 5, 6, 7, 8, 9, 10, 11] rfl
    have hD := hD.sub (ws' := (wM cs a r11.2)) [0, 1, 2, 3, 4, 5, 6, 7, 8, 9, 10, 11] (by decide) rfl
    exact hR _ _ _ _ _ _ dX8_holds_14 hf hP hD hS

