/-- both systems together -/
abbrev wAll (cs : Nat → ClassId) (g a : Nat → Nat) (B : Nat → Int32) (N : Tw) (P : Ps) (I1 : Int32) (T1 : Tw) (P1 : Ps) (I2 : Int32) (T2 : Tw) (P2 : Ps) (X : Tx) (R : Tw) (L : Wl) (K : Ch) (M : Ms) : va_W := wB g B ++ wT cs (fun i => g (1 + i)) N ++ wP cs (fun i => g (12 + i)) P ++ wI (g 14) (g 15) (g 26) I1 ++ wT cs (fun i => g (15 + i)) T1 ++ wP cs (fun i => g (26 + i)) P1 ++ wI (g 28) (g 29) (g 40) I2 ++ wT cs (fun i => g (29 + i)) T2 ++ wP cs (fun i => g (40 + i)) P2 ++ wX cs (fun i => g (42 + i)) X ++ wF (g 44) (g 45) ++ wT cs (fun i => g (45 + i)) R ++ wW cs (fun i => g (56 + i)) L ++ wC cs (fun i => g (60 + i)) K ++ wM cs a M
/-- what the law's return is worth -/
def RTw (p : Program) (l : Launch) (e : Env) (s : State) (m : MethodId) (args : Array Value) (below : List Frame) (meth : Method) (c : Code) (Q : State → Prop) (A : Nat → Prop) (res : Int32) : Prop := ∀ (H : Heap) (locs : List Loc) (pc : Nat) (ls : Array Slot) (r : Int32), decode cL_law pc = .ok (.ireturn, 1) → some r = some res → va_S A s.heap H locs → W p l e room_1 s m args below meth c H locs 74 3434 Q (F0 m pc ls [.int r])
def f_L_law_1128 (Ls : Nat) (xs : Nat → Int32) (x3 : Int32) (B : Nat → Int32) (N : Tw) (P : Ps) (I1 : Int32) (T1 : Tw) (P1 : Ps) (I2 : Int32) (T2 : Tw) (P2 : Ps) (X : Tx) (R : Tw) (L : Wl) (K : Ch) (M : Ms) (K18 : Int32 → (Nat → Int32) → Tw → Ps → Int32 → Tw → Ps → Int32 → Tw → Ps → Tx → Tw → Wl → Ch → Ms → Option Int32) : Option Int32 :=
  lett (x3 + 5) fun x3_1128 =>
  K18 x3_1128 B N P I1 T1 P1 I2 T2 P2 X R L K M
set_option maxHeartbeats 4000000 in
set_option maxRecDepth 100000 in
theorem b_L_law_1128 {p : Program} {l : Launch} {e : Env} {s : State} {m : MethodId} {args : Array Value} {below : List Frame} {meth : Method} {c : Code} {Q : State → Prop} {dC : Nat → ClassId} {dI : Nat → Nat → Nat} {cs : Nat → ClassId} {A : Nat → Prop} {g : Nat → Nat} {adK : Nat → Nat} {adV : Nat → Nat} {b : Nat} {a : Nat → Nat} {Ls : Nat} {xs : Nat → Int32} {res : Int32} (C : CallFix p m c cL_law 4 s args wsL_law RL) (G : GE dC dI cs s) (hX : va_X b Ls xs s s.heap) (hbl : b < s.heap.size) (hbA : ¬ A b) (hE : SE adK adV A s s.heap) (hJ : adI A (adr g a) 74) (hA : ∀ q : Nat, s.heap.size ≤ q → A q) (hR : RTw p l e s m args below meth c Q A res) (x3 : Int32) (B : Nat → Int32) (N : Tw) (P : Ps) (I1 : Int32) (T1 : Tw) (P1 : Ps) (I2 : Int32) (T2 : Tw) (P2 : Ps) (X : Tx) (R : Tw) (L : Wl) (K : Ch) (M : Ms) {K18 : Int32 → (Nat → Int32) → Tw → Ps → Int32 → Tw → Ps → Int32 → Tw → Ps → Tx → Tw → Wl → Ch → Ms → Option Int32} (hK18 : ∀ (x3 : Int32) (B : Nat → Int32) (N : Tw) (P : Ps) (I1 : Int32) (T1 : Tw) (P1 : Ps) (I2 : Int32) (T2 : Tw) (P2 : Ps) (X : Tx) (R : Tw) (L : Wl) (K : Ch) (M : Ms) (H : Heap) (locs : List Loc) (ls : Array Slot), lv_has ls 4 [(0, .ref b), (1, .ref (g 0)), (2, .ref (a 0)), (3, .int (x3))] → va_P (dC, dI) vwCl (wAll cs g a B N P I1 T1 P1 I2 T2 P2 X R L K M) H → va_S A s.heap H locs → K18 x3 B N P I1 T1 P1 I2 T2 P2 X R L K M = some res → W p l e room_1 s m args below meth c H locs 74 3434 Q (F0 m 18 ls [])) (H : Heap) (locs : List Loc) (ls : Array Slot) (hl : lv_has ls 4 [(0, .ref b), (1, .ref (g 0)), (2, .ref (a 0)), (3, .int (x3))]) (hP : va_P (dC, dI) vwCl (wAll cs g a B N P I1 T1 P1 I2 T2 P2 X R L K M) H) (hS : va_S A s.heap H locs) (hf : f_L_law_1128 Ls xs x3 B N P I1 T1 P1 I2 T2 P2 X R L K M K18 = some res) : W p l e room_1 s m args below meth c H locs 74 3434 Q (F0 m 1128 ls []) := by
  obtain ⟨hx, hb, hml, hown, hts⟩ := id C
  obtain ⟨hK, hN⟩ := id G
  unfold f_L_law_1128 at hf
  obtain ⟨x3_1128, ex3_1128⟩ : ∃ y : Int32, y = (x3 + 5) := ⟨_, rfl⟩
  replace hf := lett_s ex3_1128 hf
  refine lv_iinc (v := x3_1128) (lv' := [(3, .int (x3_1128)), (0, .ref b), (1, .ref (g 0)), (2, .ref (a 0))]) hx hb dL_law_1128 hl (k := 3) rfl (by rw [ex3_1128]; rfl) (by decide) rfl (fun ls hl => ?_)
  refine lv_goto (tgt := 18) hx hb dL_law_1131 (by decide) ?_
  exact hK18 x3_1128 B N P I1 T1 P1 I2 T2 P2 X R L K M _ _ _ (lv_sub hl [1, 2, 3, 0] rfl) hP hS hf
def f_L_law_184 (Ls : Nat) (xs : Nat → Int32) (x3 : Int32) (B : Nat → Int32) (N : Tw) (P : Ps) (I1 : Int32) (T1 : Tw) (P1 : Ps) (I2 : Int32) (T2 : Tw) (P2 : Ps) (X : Tx) (R : Tw) (L : Wl) (K : Ch) (M : Ms) (K18 : Int32 → (Nat → Int32) → Tw → Ps → Int32 → Tw → Ps → Int32 → Tw → Ps → Tx → Tw → Wl → Ch → Ms → Option Int32) : Option Int32 :=
  gi ((x3 + (1 : Int32))) Ls <|
  bn (f_X7_chest (xs ((x3 + (1 : Int32))).toNatClampNeg) B N) fun r190 =>
  gi ((x3 + (1 : Int32))) Ls <|
  bn (f_X8_chest (xs ((x3 + (1 : Int32))).toNatClampNeg) M) fun r199 =>
  if r190.1 = r199.1 then (
    f_L_law_1128 Ls xs x3 r190.2.1 r190.2.2 P I1 T1 P1 I2 T2 P2 X R L K r199.2 K18
  ) else (
    some (0 : Int32)
  )
set_option maxHeartbeats 4000000 in
set_option maxRecDepth 100000 in
theorem b_L_law_184 {p : Program} {l : Launch} {e : Env} {s : State} {m : MethodId} {args : Array Value} {below : List Frame} {meth : Method} {c : Code} {Q : State → Prop} {dC : Nat → ClassId} {dI : Nat → Nat → Nat} {cs : Nat → ClassId} {A : Nat → Prop} {g : Nat → Nat} {adK : Nat → Nat} {adV : Nat → Nat} {b : Nat} {a : Nat → Nat} {Ls : Nat} {xs : Nat → Int32} {res : Int32} (C : CallFix p m c cL_law 4 s args wsL_law RL) (G : GE dC dI cs s) (hX : va_X b Ls xs s s.heap) (hbl : b < s.heap.size) (hbA : ¬ A b) (hE : SE adK adV A s s.heap) (hJ : adI A (adr g a) 74) (hA : ∀ q : Nat, s.heap.size ≤ q → A q) (hR : RTw p l e s m args below meth c Q A res) (x3 : Int32) (B : Nat → Int32) (N : Tw) (P : Ps) (I1 : Int32) (T1 : Tw) (P1 : Ps) (I2 : Int32) (T2 : Tw) (P2 : Ps) (X : Tx) (R : Tw) (L : Wl) (K : Ch) (M : Ms) {K18 : Int32 → (Nat → Int32) → Tw → Ps → Int32 → Tw → Ps → Int32 → Tw → Ps → Tx → Tw → Wl → Ch → Ms → Option Int32} (hK18 : ∀ (x3 : Int32) (B : Nat → Int32) (N : Tw) (P : Ps) (I1 : Int32) (T1 : Tw) (P1 : Ps) (I2 : Int32) (T2 : Tw) (P2 : Ps) (X : Tx) (R : Tw) (L : Wl) (K : Ch) (M : Ms) (H : Heap) (locs : List Loc) (ls : Array Slot), lv_has ls 4 [(0, .ref b), (1, .ref (g 0)), (2, .ref (a 0)), (3, .int (x3))] → va_P (dC, dI) vwCl (wAll cs g a B N P I1 T1 P1 I2 T2 P2 X R L K M) H → va_S A s.heap H locs → K18 x3 B N P I1 T1 P1 I2 T2 P2 X R L K M = some res → W p l e room_1 s m args below meth c H locs 74 3434 Q (F0 m 18 ls [])) (H : Heap) (locs : List Loc) (ls : Array Slot) (hl : lv_has ls 4 [(0, .ref b), (1, .ref (g 0)), (2, .ref (a 0)), (3, .int (x3))]) (hP : va_P (dC, dI) vwCl (wAll cs g a B N P I1 T1 P1 I2 T2 P2 X R L K M) H) (hS : va_S A s.heap H locs) (hf : f_L_law_184 Ls xs x3 B N P I1 T1 P1 I2 T2 P2 X R L K M K18 = some res) : W p l e room_1 s m args below meth c H locs 74 3434 Q (F0 m 184 ls []) := by
  obtain ⟨hx, hb, hml, hown, hts⟩ := id C
  obtain ⟨hK, hN⟩ := id G
  unfold f_L_law_184 at hf
  refine lv_aload_n hx hb dL_law_184 rfl (lv_at hl 1 rfl) ?_
  refine lv_aload_n hx hb dL_law_185 rfl (lv_at hl 0 rfl) ?_
  refine lv_iload_n hx hb dL_law_186 rfl (lv_at hl 3 rfl) ?_
  refine lv_iconst (v := 1) hx hb dL_law_187 (by decide) ?_
  refine lv_iadd hx hb dL_law_188 ?_
  obtain ⟨hi1, hf⟩ := gi_e hf
  refine va_sld hx hb hX hbl hbA hS hi1 dL_law_189 ?_
  obtain ⟨r190, hr190, hf⟩ := bn_e hf
  have hPc : va_P (dC, dI) vwCl (wB g B ++ wT cs (fun i => g (1 + i)) N) _ := (hP.l.l.l.l.l.l.l.l.l.l.l.l.l.l).app (hP.l.l.l.l.l.l.l.l.l.l.l.l.l.r)
  have hec : ((wB g B ++ wT cs (fun i => g (1 + i)) N)).map Prod.fst = ([0, 1, 2, 3, 4, 5, 6, 7, 8, 9, 10, 11] : List Nat).map (adr g a) := rfl
  have hDc := vD_adr hJ [0, 1, 2, 3, 4, 5, 6, 7, 8, 9, 10, 11] (by decide) (by decide) hec
  have hFc := vF_adr hDc hS hA
  refine va_calli (va_runV (As := [.int ((xs ((x3 + (1 : Int32))).toNatClampNeg))]) (rest := []) C (c_X7_chest l dC dI cs g H.size B N (xs ((x3 + (1 : Int32))).toNatClampNeg) r190 hr190) (cwV 1 hts gL_law_X7_chest rfl rfl rfl (by decide +kernel) ⟨Nat.le_of_ble_eq_true rfl, Nat.le_of_ble_eq_true rfl⟩) ⟨(fun a U g mk q => ⟨q.1, q.2.1, q.2.2.1, GE.calling q.2.2.2.1, q.2.2.2.2⟩), va_recv hK hPc (ci := 7) (q0 := 0) rfl rfl, (fun U hU hW => ⟨rfl, by rw [hU], by rw [hU]; exact hPc, GE.warm hW G, hDc.weaken (fun _ _ _ _ => trivial)⟩)⟩ rfl rfl hl.1 rfl (lv_room (Nat.le_of_ble_eq_true rfl)) dL_law_190 ⟨Nat.le_of_ble_eq_true rfl, Nat.le_of_ble_eq_true rfl⟩) hS (fun q _ h => hFc q h) hFc (fun q u t H1 locs ht hvm hw hB hz1 hk1 hS => ?_)
  obtain ⟨rfl, rfl⟩ := hw
  obtain ⟨hP1, -⟩ := hB
  rw [ht] at hP1
  have hP : va_P (dC, dI) vwCl (wAll cs g a r190.2.1 r190.2.2 P I1 T1 P1 I2 T2 P2 X R L K M) H1 := ((((((((((((((hP1.l).app (hP1.r)).app ((vP_keep hJ (hP.l.l.l.l.l.l.l.l.l.l.l.l.r) [12, 13] [0, 1, 2, 3, 4, 5, 6, 7, 8, 9, 10, 11] rfl hec (by decide) (by decide) hk1))).app ((vP_keep hJ (hP.l.l.l.l.l.l.l.l.l.l.l.r) [14] [0, 1, 2, 3, 4, 5, 6, 7, 8, 9, 10, 11] rfl hec (by decide) (by decide) hk1))).app ((vP_keep hJ (hP.l.l.l.l.l.l.l.l.l.l.r) [15, 16, 17, 18, 19, 20, 21, 22, 23, 24, 25] [0, 1, 2, 3, 4, 5, 6, 7, 8, 9, 10, 11] rfl hec (by decide) (by decide) hk1))).app ((vP_keep hJ (hP.l.l.l.l.l.l.l.l.l.r) [26, 27] [0, 1, 2, 3, 4, 5, 6, 7, 8, 9, 10, 11] rfl hec (by decide) (by decide) hk1))).app ((vP_keep hJ (hP.l.l.l.l.l.l.l.l.r) [28] [0, 1, 2, 3, 4, 5, 6, 7, 8, 9, 10, 11] rfl hec (by decide) (by decide) hk1))).app ((vP_keep hJ (hP.l.l.l.l.l.l.l.r) [29, 30, 31, 32, 33, 34, 35, 36, 37, 38, 39] [0, 1, 2, 3, 4, 5, 6, 7, 8, 9, 10, 11] rfl hec (by decide) (by decide) hk1))).app ((vP_keep hJ (hP.l.l.l.l.l.l.r) [40, 41] [0, 1, 2, 3, 4, 5, 6, 7, 8, 9, 10, 11] rfl hec (by decide) (by decide) hk1))).app ((vP_keep hJ (hP.l.l.l.l.l.r) [42, 43] [0, 1, 2, 3, 4, 5, 6, 7, 8, 9, 10, 11] rfl hec (by decide) (by decide) hk1))).app ((vP_keep hJ (hP.l.l.l.l.r) [44] [0, 1, 2, 3, 4, 5, 6, 7, 8, 9, 10, 11] rfl hec (by decide) (by decide) hk1))).app ((vP_keep hJ (hP.l.l.l.r) [45, 46, 47, 48, 49, 50, 51, 52, 53, 54, 55] [0, 1, 2, 3, 4, 5, 6, 7, 8, 9, 10, 11] rfl hec (by decide) (by decide) hk1))).app ((vP_keep hJ (hP.l.l.r) [56, 57, 58, 59] [0, 1, 2, 3, 4, 5, 6, 7, 8, 9, 10, 11] rfl hec (by decide) (by decide) hk1))).app ((vP_keep hJ (hP.l.r) [60, 61] [0, 1, 2, 3, 4, 5, 6, 7, 8, 9, 10, 11] rfl hec (by decide) (by decide) hk1))).app ((vP_keep hJ (hP.r) [62, 63, 64, 65, 66, 67, 68, 69, 70, 71, 72, 73] [0, 1, 2, 3, 4, 5, 6, 7, 8, 9, 10, 11] rfl hec (by decide) (by decide) hk1))
  generalize H1 = H at hP hS ⊢
  refine lv_aload_n hx hb dL_law_193 rfl (lv_at hl 2 rfl) ?_
  refine lv_aload_n hx hb dL_law_194 rfl (lv_at hl 0 rfl) ?_
  refine lv_iload_n hx hb dL_law_195 rfl (lv_at hl 3 rfl) ?_
  refine lv_iconst (v := 1) hx hb dL_law_196 (by decide) ?_
  refine lv_iadd hx hb dL_law_197 ?_
  obtain ⟨hi2, hf⟩ := gi_e hf
  refine va_sld hx hb hX hbl hbA hS hi2 dL_law_198 ?_
  obtain ⟨r199, hr199, hf⟩ := bn_e hf
  have hPc : va_P (dC, dI) vwCl (wM cs a M) _ := hP.r
  have hec : ((wM cs a M)).map Prod.fst = ([62, 63, 64, 65, 66, 67, 68, 69, 70, 71, 72, 73] : List Nat).map (adr g a) := rfl
  have hDc := vD_adr hJ [62, 63, 64, 65, 66, 67, 68, 69, 70, 71, 72, 73] (by decide) (by decide) hec
  have hFc := vF_adr hDc hS hA
  refine va_calli (va_runV (As := [.int ((xs ((x3 + (1 : Int32))).toNatClampNeg))]) (rest := [.int (r190.1)]) C (c_X8_chest l dC dI cs a H.size M (xs ((x3 + (1 : Int32))).toNatClampNeg) r199 hr199) (cwV 1 hts gL_law_X8_chest rfl rfl rfl (by decide +kernel) ⟨Nat.le_of_ble_eq_true rfl, Nat.le_of_ble_eq_true rfl⟩) ⟨(fun a U g mk q => ⟨q.1, q.2.1, q.2.2.1, GE.calling q.2.2.2.1, q.2.2.2.2⟩), va_recv hK hPc (ci := 8) (q0 := 0) rfl rfl, (fun U hU hW => ⟨rfl, by rw [hU], by rw [hU]; exact hPc, GE.warm hW G, hDc.weaken (fun _ _ _ _ => trivial)⟩)⟩ rfl rfl hl.1 rfl (lv_room (Nat.le_of_ble_eq_true rfl)) dL_law_199 ⟨Nat.le_of_ble_eq_true rfl, Nat.le_of_ble_eq_true rfl⟩) hS (fun q _ h => hFc q h) hFc (fun q u t H1 locs ht hvm hw hB hz1 hk1 hS => ?_)
  obtain ⟨rfl, rfl⟩ := hw
  obtain ⟨hP1, -⟩ := hB
  rw [ht] at hP1
  have hP : va_P (dC, dI) vwCl (wAll cs g a r190.2.1 r190.2.2 P I1 T1 P1 I2 T2 P2 X R L K r199.2) H1 := (((((((((((((((vP_keep hJ (hP.l.l.l.l.l.l.l.l.l.l.l.l.l.l) [0] [62, 63, 64, 65, 66, 67, 68, 69, 70, 71, 72, 73] rfl hec (by decide) (by decide) hk1)).app ((vP_keep hJ (hP.l.l.l.l.l.l.l.l.l.l.l.l.l.r) [1, 2, 3, 4, 5, 6, 7, 8, 9, 10, 11] [62, 63, 64, 65, 66, 67, 68, 69, 70, 71, 72, 73] rfl hec (by decide) (by decide) hk1))).app ((vP_keep hJ (hP.l.l.l.l.l.l.l.l.l.l.l.l.r) [12, 13] [62, 63, 64, 65, 66, 67, 68, 69, 70, 71, 72, 73] rfl hec (by decide) (by decide) hk1))).app ((vP_keep hJ (hP.l.l.l.l.l.l.l.l.l.l.l.r) [14] [62, 63, 64, 65, 66, 67, 68, 69, 70, 71, 72, 73] rfl hec (by decide) (by decide) hk1))).app ((vP_keep hJ (hP.l.l.l.l.l.l.l.l.l.l.r) [15, 16, 17, 18, 19, 20, 21, 22, 23, 24, 25] [62, 63, 64, 65, 66, 67, 68, 69, 70, 71, 72, 73] rfl hec (by decide) (by decide) hk1))).app ((vP_keep hJ (hP.l.l.l.l.l.l.l.l.l.r) [26, 27] [62, 63, 64, 65, 66, 67, 68, 69, 70, 71, 72, 73] rfl hec (by decide) (by decide) hk1))).app ((vP_keep hJ (hP.l.l.l.l.l.l.l.l.r) [28] [62, 63, 64, 65, 66, 67, 68, 69, 70, 71, 72, 73] rfl hec (by decide) (by decide) hk1))).app ((vP_keep hJ (hP.l.l.l.l.l.l.l.r) [29, 30, 31, 32, 33, 34, 35, 36, 37, 38, 39] [62, 63, 64, 65, 66, 67, 68, 69, 70, 71, 72, 73] rfl hec (by decide) (by decide) hk1))).app ((vP_keep hJ (hP.l.l.l.l.l.l.r) [40, 41] [62, 63, 64, 65, 66, 67, 68, 69, 70, 71, 72, 73] rfl hec (by decide) (by decide) hk1))).app ((vP_keep hJ (hP.l.l.l.l.l.r) [42, 43] [62, 63, 64, 65, 66, 67, 68, 69, 70, 71, 72, 73] rfl hec (by decide) (by decide) hk1))).app ((vP_keep hJ (hP.l.l.l.l.r) [44] [62, 63, 64, 65, 66, 67, 68, 69, 70, 71, 72, 73] rfl hec (by decide) (by decide) hk1))).app ((vP_keep hJ (hP.l.l.l.r) [45, 46, 47, 48, 49, 50, 51, 52, 53, 54, 55] [62, 63, 64, 65, 66, 67, 68, 69, 70, 71, 72, 73] rfl hec (by decide) (by decide) hk1))).app ((vP_keep hJ (hP.l.l.r) [56, 57, 58, 59] [62, 63, 64, 65, 66, 67, 68, 69, 70, 71, 72, 73] rfl hec (by decide) (by decide) hk1))).app ((vP_keep hJ (hP.l.r) [60, 61] [62, 63, 64, 65, 66, 67, 68, 69, 70, 71, 72, 73] rfl hec (by decide) (by decide) hk1))).app (hP1)
  generalize H1 = H at hP hS ⊢
  refine lv_icmp_eq (tgt := 1128) hx hb dL_law_202 (by decide) (fun c3 => ?_) (fun c3 => ?_)
  · replace hf := it_t c3 hf
    exact b_L_law_1128 C G hX hbl hbA hE hJ hA hR x3 r190.2.1 r190.2.2 P I1 T1 P1 I2 T2 P2 X R L K r199.2 hK18 _ _ _ (lv_sub hl [0, 1, 2, 3] rfl) hP hS hf
  · replace hf := it_f c3 hf
    refine lv_iconst (v := 0) hx hb dL_law_205 (by decide) ?_
    exact hR _ _ _ _ _ dL_law_206 hf hS
def f_L_law_207 (Ls : Nat) (xs : Nat → Int32) (x3 : Int32) (B : Nat → Int32) (N : Tw) (P : Ps) (I1 : Int32) (T1 : Tw) (P1 : Ps) (I2 : Int32) (T2 : Tw) (P2 : Ps) (X : Tx) (R : Tw) (L : Wl) (K : Ch) (M : Ms) (K18 : Int32 → (Nat → Int32) → Tw → Ps → Int32 → Tw → Ps → Int32 → Tw → Ps → Tx → Tw → Wl → Ch → Ms → Option Int32) : Option Int32 :=
  gi ((x3 + (1 : Int32))) Ls <|
  bn (f_X7_rate (xs ((x3 + (1 : Int32))).toNatClampNeg) B N) fun r213 =>
  gi ((x3 + (1 : Int32))) Ls <|
  bn (f_X8_rate (xs ((x3 + (1 : Int32))).toNatClampNeg) M) fun r222 =>
  if r213.1 = r222.1 then (
    f_L_law_1128 Ls xs x3 r213.2.1 r213.2.2 P I1 T1 P1 I2 T2 P2 X R L K r222.2 K18
  ) else (
    some (0 : Int32)
  )
set_option maxHeartbeats 4000000 in
set_option maxRecDepth 100000 in
theorem b_L_law_207 {p : Program} {l : Launch} {e : Env} {s : State} {m : MethodId} {args : Array Value} {below : List Frame} {meth : Method} {c : Code} {Q : State → Prop} {dC : Nat → ClassId} {dI : Nat → Nat → Nat} {cs : Nat → ClassId} {A : Nat → Prop} {g : Nat → Nat} {adK : Nat → Nat} {adV : Nat → Nat} {b : Nat} {a : Nat → Nat} {Ls : Nat} {xs : Nat → Int32} {res : Int32} (C : CallFix p m c cL_law 4 s args wsL_law RL) (G : GE dC dI cs s) (hX : va_X b Ls xs s s.heap) (hbl : b < s.heap.size) (hbA : ¬ A b) (hE : SE adK adV A s s.heap) (hJ : adI A (adr g a) 74) (hA : ∀ q : Nat, s.heap.size ≤ q → A q) (hR : RTw p l e s m args below meth c Q A res) (x3 : Int32) (B : Nat → Int32) (N : Tw) (P : Ps) (I1 : Int32) (T1 : Tw) (P1 : Ps) (I2 : Int32) (T2 : Tw) (P2 : Ps) (X : Tx) (R : Tw) (L : Wl) (K : Ch) (M : Ms) {K18 : Int32 → (Nat → Int32) → Tw → Ps → Int32 → Tw → Ps → Int32 → Tw → Ps → Tx → Tw → Wl → Ch → Ms → Option Int32} (hK18 : ∀ (x3 : Int32) (B : Nat → Int32) (N : Tw) (P : Ps) (I1 : Int32) (T1 : Tw) (P1 : Ps) (I2 : Int32) (T2 : Tw) (P2 : Ps) (X : Tx) (R : Tw) (L : Wl) (K : Ch) (M : Ms) (H : Heap) (locs : List Loc) (ls : Array Slot), lv_has ls 4 [(0, .ref b), (1, .ref (g 0)), (2, .ref (a 0)), (3, .int (x3))] → va_P (dC, dI) vwCl (wAll cs g a B N P I1 T1 P1 I2 T2 P2 X R L K M) H → va_S A s.heap H locs → K18 x3 B N P I1 T1 P1 I2 T2 P2 X R L K M = some res → W p l e room_1 s m args below meth c H locs 74 3434 Q (F0 m 18 ls [])) (H : Heap) (locs : List Loc) (ls : Array Slot) (hl : lv_has ls 4 [(0, .ref b), (1, .ref (g 0)), (2, .ref (a 0)), (3, .int (x3))]) (hP : va_P (dC, dI) vwCl (wAll cs g a B N P I1 T1 P1 I2 T2 P2 X R L K M) H) (hS : va_S A s.heap H locs) (hf : f_L_law_207 Ls xs x3 B N P I1 T1 P1 I2 T2 P2 X R L K M K18 = some res) : W p l e room_1 s m args below meth c H locs 74 3434 Q (F0 m 207 ls []) := by
  obtain ⟨hx, hb, hml, hown, hts⟩ := id C
  obtain ⟨hK, hN⟩ := id G
  unfold f_L_law_207 at hf
  refine lv_aload_n hx hb dL_law_207 rfl (lv_at hl 1 rfl) ?_
  refine lv_aload_n hx hb dL_law_208 rfl (lv_at hl 0 rfl) ?_
  refine lv_iload_n hx hb dL_law_209 rfl (lv_at hl 3 rfl) ?_
  refine lv_iconst (v := 1) hx hb dL_law_210 (by decide) ?_
  refine lv_iadd hx hb dL_law_211 ?_
  obtain ⟨hi1, hf⟩ := gi_e hf
  refine va_sld hx hb hX hbl hbA hS hi1 dL_law_212 ?_
  obtain ⟨r213, hr213, hf⟩ := bn_e hf
  have hPc : va_P (dC, dI) vwCl (wB g B ++ wT cs (fun i => g (1 + i)) N) _ := (hP.l.l.l.l.l.l.l.l.l.l.l.l.l.l).app (hP.l.l.l.l.l.l.l.l.l.l.l.l.l.r)
  have hec : ((wB g B ++ wT cs (fun i => g (1 + i)) N)).map Prod.fst = ([0, 1, 2, 3, 4, 5, 6, 7, 8, 9, 10, 11] : List Nat).map (adr g a) := rfl
  have hDc := vD_adr hJ [0, 1, 2, 3, 4, 5, 6, 7, 8, 9, 10, 11] (by decide) (by decide) hec
  have hFc := vF_adr hDc hS hA
  refine va_calli (va_runV (As := [.int ((xs ((x3 + (1 : Int32))).toNatClampNeg))]) (rest := []) C (c_X7_rate l dC dI cs g H.size B N (xs ((x3 + (1 : Int32))).toNatClampNeg) r213 hr213) (cwV 1 hts gL_law_X7_rate rfl rfl rfl (by decide +kernel) ⟨Nat.le_of_ble_eq_true rfl, Nat.le_of_ble_eq_true rfl⟩) ⟨(fun a U g mk q => ⟨q.1, q.2.1, q.2.2.1, GE.calling q.2.2.2.1, q.2.2.2.2⟩), va_recv hK hPc (ci := 7) (q0 := 0) rfl rfl, (fun U hU hW => ⟨rfl, by rw [hU], by rw [hU]; exact hPc, GE.warm hW G, hDc.weaken (fun _ _ _ _ => trivial)⟩)⟩ rfl rfl hl.1 rfl (lv_room (Nat.le_of_ble_eq_true rfl)) dL_law_213 ⟨Nat.le_of_ble_eq_true rfl, Nat.le_of_ble_eq_true rfl⟩) hS (fun q _ h => hFc q h) hFc (fun q u t H1 locs ht hvm hw hB hz1 hk1 hS => ?_)
  obtain ⟨rfl, rfl⟩ := hw
  obtain ⟨hP1, -⟩ := hB
  rw [ht] at hP1
  have hP : va_P (dC, dI) vwCl (wAll cs g a r213.2.1 r213.2.2 P I1 T1 P1 I2 T2 P2 X R L K M) H1 := ((((((((((((((hP1.l).app (hP1.r)).app ((vP_keep hJ (hP.l.l.l.l.l.l.l.l.l.l.l.l.r) [12, 13] [0, 1, 2, 3, 4, 5, 6, 7, 8, 9, 10, 11] rfl hec (by decide) (by decide) hk1))).app ((vP_keep hJ (hP.l.l.l.l.l.l.l.l.l.l.l.r) [14] [0, 1, 2, 3, 4, 5, 6, 7, 8, 9, 10, 11] rfl hec (by decide) (by decide) hk1))).app ((vP_keep hJ (hP.l.l.l.l.l.l.l.l.l.l.r) [15, 16, 17, 18, 19, 20, 21, 22, 23, 24, 25] [0, 1, 2, 3, 4, 5, 6, 7, 8, 9, 10, 11] rfl hec (by decide) (by decide) hk1))).app ((vP_keep hJ (hP.l.l.l.l.l.l.l.l.l.r) [26, 27] [0, 1, 2, 3, 4, 5, 6, 7, 8, 9, 10, 11] rfl hec (by decide) (by decide) hk1))).app ((vP_keep hJ (hP.l.l.l.l.l.l.l.l.r) [28] [0, 1, 2, 3, 4, 5, 6, 7, 8, 9, 10, 11] rfl hec (by decide) (by decide) hk1))).app ((vP_keep hJ (hP.l.l.l.l.l.l.l.r) [29, 30, 31, 32, 33, 34, 35, 36, 37, 38, 39] [0, 1, 2, 3, 4, 5, 6, 7, 8, 9, 10, 11] rfl hec (by decide) (by decide) hk1))).app ((vP_keep hJ (hP.l.l.l.l.l.l.r) [40, 41] [0, 1, 2, 3, 4, 5, 6, 7, 8, 9, 10, 11] rfl hec (by decide) (by decide) hk1))).app ((vP_keep hJ (hP.l.l.l.l.l.r) [42, 43] [0, 1, 2, 3, 4, 5, 6, 7, 8, 9, 10, 11] rfl hec (by decide) (by decide) hk1))).app ((vP_keep hJ (hP.l.l.l.l.r) [44] [0, 1, 2, 3, 4, 5, 6, 7, 8, 9, 10, 11] rfl hec (by decide) (by decide) hk1))).app ((vP_keep hJ (hP.l.l.l.r) [45, 46, 47, 48, 49, 50, 51, 52, 53, 54, 55] [0, 1, 2, 3, 4, 5, 6, 7, 8, 9, 10, 11] rfl hec (by decide) (by decide) hk1))).app ((vP_keep hJ (hP.l.l.r) [56, 57, 58, 59] [0, 1, 2, 3, 4, 5, 6, 7, 8, 9, 10, 11] rfl hec (by decide) (by decide) hk1))).app ((vP_keep hJ (hP.l.r) [60, 61] [0, 1, 2, 3, 4, 5, 6, 7, 8, 9, 10, 11] rfl hec (by decide) (by decide) hk1))).app ((vP_keep hJ (hP.r) [62, 63, 64, 65, 66, 67, 68, 69, 70, 71, 72, 73] [0, 1, 2, 3, 4, 5, 6, 7, 8, 9, 10, 11] rfl hec (by decide) (by decide) hk1))
  generalize H1 = H at hP hS ⊢
  refine lv_aload_n hx hb dL_law_216 rfl (lv_at hl 2 rfl) ?_
  refine lv_aload_n hx hb dL_law_217 rfl (lv_at hl 0 rfl) ?_
  refine lv_iload_n hx hb dL_law_218 rfl (lv_at hl 3 rfl) ?_
  refine lv_iconst (v := 1) hx hb dL_law_219 (by decide) ?_
  refine lv_iadd hx hb dL_law_220 ?_
  obtain ⟨hi2, hf⟩ := gi_e hf
  refine va_sld hx hb hX hbl hbA hS hi2 dL_law_221 ?_
  obtain ⟨r222, hr222, hf⟩ := bn_e hf
  have hPc : va_P (dC, dI) vwCl (wM cs a M) _ := hP.r
  have hec : ((wM cs a M)).map Prod.fst = ([62, 63, 64, 65, 66, 67, 68, 69, 70, 71, 72, 73] : List Nat).map (adr g a) := rfl
  have hDc := vD_adr hJ [62, 63, 64, 65, 66, 67, 68, 69, 70, 71, 72, 73] (by decide) (by decide) hec
  have hFc := vF_adr hDc hS hA
  refine va_calli (va_runV (As := [.int ((xs ((x3 + (1 : Int32))).toNatClampNeg))]) (rest := [.int (r213.1)]) C (c_X8_rate l dC dI cs a H.size M (xs ((x3 + (1 : Int32))).toNatClampNeg) r222 hr222) (cwV 1 hts gL_law_X8_rate rfl rfl rfl (by decide +kernel) ⟨Nat.le_of_ble_eq_true rfl, Nat.le_of_ble_eq_true rfl⟩) ⟨(fun a U g mk q => ⟨q.1, q.2.1, q.2.2.1, GE.calling q.2.2.2.1, q.2.2.2.2⟩), va_recv hK hPc (ci := 8) (q0 := 0) rfl rfl, (fun U hU hW => ⟨rfl, by rw [hU], by rw [hU]; exact hPc, GE.warm hW G, hDc.weaken (fun _ _ _ _ => trivial)⟩)⟩ rfl rfl hl.1 rfl (lv_room (Nat.le_of_ble_eq_true rfl)) dL_law_222 ⟨Nat.le_of_ble_eq_true rfl, Nat.le_of_ble_eq_true rfl⟩) hS (fun q _ h => hFc q h) hFc (fun q u t H1 locs ht hvm hw hB hz1 hk1 hS => ?_)
  obtain ⟨rfl, rfl⟩ := hw
  obtain ⟨hP1, -⟩ := hB
  rw [ht] at hP1
  have hP : va_P (dC, dI) vwCl (wAll cs g a r213.2.1 r213.2.2 P I1 T1 P1 I2 T2 P2 X R L K r222.2) H1 := (((((((((((((((vP_keep hJ (hP.l.l.l.l.l.l.l.l.l.l.l.l.l.l) [0] [62, 63, 64, 65, 66, 67, 68, 69, 70, 71, 72, 73] rfl hec (by decide) (by decide) hk1)).app ((vP_keep hJ (hP.l.l.l.l.l.l.l.l.l.l.l.l.l.r) [1, 2, 3, 4, 5, 6, 7, 8, 9, 10, 11] [62, 63, 64, 65, 66, 67, 68, 69, 70, 71, 72, 73] rfl hec (by decide) (by decide) hk1))).app ((vP_keep hJ (hP.l.l.l.l.l.l.l.l.l.l.l.l.r) [12, 13] [62, 63, 64, 65, 66, 67, 68, 69, 70, 71, 72, 73] rfl hec (by decide) (by decide) hk1))).app ((vP_keep hJ (hP.l.l.l.l.l.l.l.l.l.l.l.r) [14] [62, 63, 64, 65, 66, 67, 68, 69, 70, 71, 72, 73] rfl hec (by decide) (by decide) hk1))).app ((vP_keep hJ (hP.l.l.l.l.l.l.l.l.l.l.r) [15, 16, 17, 18, 19, 20, 21, 22, 23, 24, 25] [62, 63, 64, 65, 66, 67, 68, 69, 70, 71, 72, 73] rfl hec (by decide) (by decide) hk1))).app ((vP_keep hJ (hP.l.l.l.l.l.l.l.l.l.r) [26, 27] [62, 63, 64, 65, 66, 67, 68, 69, 70, 71, 72, 73] rfl hec (by decide) (by decide) hk1))).app ((vP_keep hJ (hP.l.l.l.l.l.l.l.l.r) [28] [62, 63, 64, 65, 66, 67, 68, 69, 70, 71, 72, 73] rfl hec (by decide) (by decide) hk1))).app ((vP_keep hJ (hP.l.l.l.l.l.l.l.r) [29, 30, 31, 32, 33, 34, 35, 36, 37, 38, 39] [62, 63, 64, 65, 66, 67, 68, 69, 70, 71, 72, 73] rfl hec (by decide) (by decide) hk1))).app ((vP_keep hJ (hP.l.l.l.l.l.l.r) [40, 41] [62, 63, 64, 65, 66, 67, 68, 69, 70, 71, 72, 73] rfl hec (by decide) (by decide) hk1))).app ((vP_keep hJ (hP.l.l.l.l.l.r) [42, 43] [62, 63, 64, 65, 66, 67, 68, 69, 70, 71, 72, 73] rfl hec (by decide) (by decide) hk1))).app ((vP_keep hJ (hP.l.l.l.l.r) [44] [62, 63, 64, 65, 66, 67, 68, 69, 70, 71, 72, 73] rfl hec (by decide) (by decide) hk1))).app ((vP_keep hJ (hP.l.l.l.r) [45, 46, 47, 48, 49, 50, 51, 52, 53, 54, 55] [62, 63, 64, 65, 66, 67, 68, 69, 70, 71, 72, 73] rfl hec (by decide) (by decide) hk1))).app ((vP_keep hJ (hP.l.l.r) [56, 57, 58, 59] [62, 63, 64, 65, 66, 67, 68, 69, 70, 71, 72, 73] rfl hec (by decide) (by decide) hk1))).app ((vP_keep hJ (hP.l.r) [60, 61] [62, 63, 64, 65, 66, 67, 68, 69, 70, 71, 72, 73] rfl hec (by decide) (by decide) hk1))).app (hP1)
  generalize H1 = H at hP hS ⊢
  refine lv_icmp_eq (tgt := 1128) hx hb dL_law_225 (by decide) (fun c3 => ?_) (fun c3 => ?_)
  · replace hf := it_t c3 hf
    exact b_L_law_1128 C G hX hbl hbA hE hJ hA hR x3 r213.2.1 r213.2.2 P I1 T1 P1 I2 T2 P2 X R L K r222.2 hK18 _ _ _ (lv_sub hl [0, 1, 2, 3] rfl) hP hS hf
  · replace hf := it_f c3 hf
    refine lv_iconst (v := 0) hx hb dL_law_228 (by decide) ?_
    exact hR _ _ _ _ _ dL_law_229 hf hS
def f_L_law_230 (Ls : Nat) (xs : Nat → Int32) (x3 : Int32) (B : Nat → Int32) (N : Tw) (P : Ps) (I1 : Int32) (T1 : Tw) (P1 : Ps) (I2 : Int32) (T2 : Tw) (P2 : Ps) (X : Tx) (R : Tw) (L : Wl) (K : Ch) (M : Ms) (K18 : Int32 → (Nat → Int32) → Tw → Ps → Int32 → Tw → Ps → Int32 → Tw → Ps → Tx → Tw → Wl → Ch → Ms → Option Int32) : Option Int32 :=
  gi ((x3 + (1 : Int32))) Ls <|
  gi ((x3 + (2 : Int32))) Ls <|
  gi ((x3 + (3 : Int32))) Ls <|
  bn (f_X7_person (xs ((x3 + (1 : Int32))).toNatClampNeg) (xs ((x3 + (2 : Int32))).toNatClampNeg) (xs ((x3 + (3 : Int32))).toNatClampNeg) B N) fun r246 =>
  gi ((x3 + (1 : Int32))) Ls <|
  gi ((x3 + (2 : Int32))) Ls <|
  gi ((x3 + (3 : Int32))) Ls <|
  bn (f_X8_person (xs ((x3 + (1 : Int32))).toNatClampNeg) (xs ((x3 + (2 : Int32))).toNatClampNeg) (xs ((x3 + (3 : Int32))).toNatClampNeg) M) fun r265 =>
  if r246.1 = r265.1 then (
    f_L_law_1128 Ls xs x3 r246.2.1 r246.2.2 P I1 T1 P1 I2 T2 P2 X R L K r265.2 K18
  ) else (
    some (0 : Int32)
  )
set_option maxHeartbeats 4000000 in
set_option maxRecDepth 100000 in
theorem b_L_law_230 {p : Program} {l : Launch} {e : Env} {s : State} {m : MethodId} {args : Array Value} {below : List Frame} {meth : Method} {c : Code} {Q : State → Prop} {dC : Nat → ClassId} {dI : Nat → Nat → Nat} {cs : Nat → ClassId} {A : Nat → Prop} {g : Nat → Nat} {adK : Nat → Nat} {adV : Nat → Nat} {b : Nat} {a : Nat → Nat} {Ls : Nat} {xs : Nat → Int32} {res : Int32} (C : CallFix p m c cL_law 4 s args wsL_law RL) (G : GE dC dI cs s) (hX : va_X b Ls xs s s.heap) (hbl : b < s.heap.size) (hbA : ¬ A b) (hE : SE adK adV A s s.heap) (hJ : adI A (adr g a) 74) (hA : ∀ q : Nat, s.heap.size ≤ q → A q) (hR : RTw p l e s m args below meth c Q A res) (x3 : Int32) (B : Nat → Int32) (N : Tw) (P : Ps) (I1 : Int32) (T1 : Tw) (P1 : Ps) (I2 : Int32) (T2 : Tw) (P2 : Ps) (X : Tx) (R : Tw) (L : Wl) (K : Ch) (M : Ms) {K18 : Int32 → (Nat → Int32) → Tw → Ps → Int32 → Tw → Ps → Int32 → Tw → Ps → Tx → Tw → Wl → Ch → Ms → Option Int32} (hK18 : ∀ (x3 : Int32) (B : Nat → Int32) (N : Tw) (P : Ps) (I1 : Int32) (T1 : Tw) (P1 : Ps) (I2 : Int32) (T2 : Tw) (P2 : Ps) (X : Tx) (R : Tw) (L : Wl) (K : Ch) (M : Ms) (H : Heap) (locs : List Loc) (ls : Array Slot), lv_has ls 4 [(0, .ref b), (1, .ref (g 0)), (2, .ref (a 0)), (3, .int (x3))] → va_P (dC, dI) vwCl (wAll cs g a B N P I1 T1 P1 I2 T2 P2 X R L K M) H → va_S A s.heap H locs → K18 x3 B N P I1 T1 P1 I2 T2 P2 X R L K M = some res → W p l e room_1 s m args below meth c H locs 74 3434 Q (F0 m 18 ls [])) (H : Heap) (locs : List Loc) (ls : Array Slot) (hl : lv_has ls 4 [(0, .ref b), (1, .ref (g 0)), (2, .ref (a 0)), (3, .int (x3))]) (hP : va_P (dC, dI) vwCl (wAll cs g a B N P I1 T1 P1 I2 T2 P2 X R L K M) H) (hS : va_S A s.heap H locs) (hf : f_L_law_230 Ls xs x3 B N P I1 T1 P1 I2 T2 P2 X R L K M K18 = some res) : W p l e room_1 s m args below meth c H locs 74 3434 Q (F0 m 230 ls []) := by
  obtain ⟨hx, hb, hml, hown, hts⟩ := id C
  obtain ⟨hK, hN⟩ := id G
  unfold f_L_law_230 at hf
  refine lv_aload_n hx hb dL_law_230 rfl (lv_at hl 1 rfl) ?_
  refine lv_aload_n hx hb dL_law_231 rfl (lv_at hl 0 rfl) ?_
  refine lv_iload_n hx hb dL_law_232 rfl (lv_at hl 3 rfl) ?_
  refine lv_iconst (v := 1) hx hb dL_law_233 (by decide) ?_
  refine lv_iadd hx hb dL_law_234 ?_
  obtain ⟨hi1, hf⟩ := gi_e hf
  refine va_sld hx hb hX hbl hbA hS hi1 dL_law_235 ?_
  refine lv_aload_n hx hb dL_law_236 rfl (lv_at hl 0 rfl) ?_
  refine lv_iload_n hx hb dL_law_237 rfl (lv_at hl 3 rfl) ?_
  refine lv_iconst (v := 2) hx hb dL_law_238 (by decide) ?_
  refine lv_iadd hx hb dL_law_239 ?_
  obtain ⟨hi2, hf⟩ := gi_e hf
  refine va_sld hx hb hX hbl hbA hS hi2 dL_law_240 ?_
  refine lv_aload_n hx hb dL_law_241 rfl (lv_at hl 0 rfl) ?_
  refine lv_iload_n hx hb dL_law_242 rfl (lv_at hl 3 rfl) ?_
  refine lv_iconst (v := 3) hx hb dL_law_243 (by decide) ?_
  refine lv_iadd hx hb dL_law_244 ?_
  obtain ⟨hi3, hf⟩ := gi_e hf
  refine va_sld hx hb hX hbl hbA hS hi3 dL_law_245 ?_
  obtain ⟨r246, hr246, hf⟩ := bn_e hf
  have hPc : va_P (dC, dI) vwCl (wB g B ++ wT cs (fun i => g (1 + i)) N) _ := (hP.l.l.l.l.l.l.l.l.l.l.l.l.l.l).app (hP.l.l.l.l.l.l.l.l.l.l.l.l.l.r)
  have hec : ((wB g B ++ wT cs (fun i => g (1 + i)) N)).map Prod.fst = ([0, 1, 2, 3, 4, 5, 6, 7, 8, 9, 10, 11] : List Nat).map (adr g a) := rfl
  have hDc := vD_adr hJ [0, 1, 2, 3, 4, 5, 6, 7, 8, 9, 10, 11] (by decide) (by decide) hec
  have hFc := vF_adr hDc hS hA
  refine va_calli (va_runV (As := [.int ((xs ((x3 + (1 : Int32))).toNatClampNeg)), .int ((xs ((x3 + (2 : Int32))).toNatClampNeg)), .int ((xs ((x3 + (3 : Int32))).toNatClampNeg))]) (rest := []) C (c_X7_person l dC dI cs g H.size B N (xs ((x3 + (1 : Int32))).toNatClampNeg) (xs ((x3 + (2 : Int32))).toNatClampNeg) (xs ((x3 + (3 : Int32))).toNatClampNeg) r246 hr246) (cwV 3 hts gL_law_X7_person rfl rfl rfl (by decide +kernel) ⟨Nat.le_of_ble_eq_true rfl, Nat.le_of_ble_eq_true rfl⟩) ⟨(fun a U g mk q => ⟨q.1, q.2.1, q.2.2.1, GE.calling q.2.2.2.1, q.2.2.2.2⟩), va_recv hK hPc (ci := 7) (q0 := 0) rfl rfl, (fun U hU hW => ⟨rfl, by rw [hU], by rw [hU]; exact hPc, GE.warm hW G, hDc.weaken (fun _ _ _ _ => trivial)⟩)⟩ rfl rfl hl.1 rfl (lv_room (Nat.le_of_ble_eq_true rfl)) dL_law_246 ⟨Nat.le_of_ble_eq_true rfl, Nat.le_of_ble_eq_true rfl⟩) hS (fun q _ h => hFc q h) hFc (fun q u t H1 locs ht hvm hw hB hz1 hk1 hS => ?_)
  obtain ⟨rfl, rfl⟩ := hw
  obtain ⟨hP1, -⟩ := hB
  rw [ht] at hP1
  have hP : va_P (dC, dI) vwCl (wAll cs g a r246.2.1 r246.2.2 P I1 T1 P1 I2 T2 P2 X R L K M) H1 := ((((((((((((((hP1.l).app (hP1.r)).app ((vP_keep hJ (hP.l.l.l.l.l.l.l.l.l.l.l.l.r) [12, 13] [0, 1, 2, 3, 4, 5, 6, 7, 8, 9, 10, 11] rfl hec (by decide) (by decide) hk1))).app ((vP_keep hJ (hP.l.l.l.l.l.l.l.l.l.l.l.r) [14] [0, 1, 2, 3, 4, 5, 6, 7, 8, 9, 10, 11] rfl hec (by decide) (by decide) hk1))).app ((vP_keep hJ (hP.l.l.l.l.l.l.l.l.l.l.r) [15, 16, 17, 18, 19, 20, 21, 22, 23, 24, 25] [0, 1, 2, 3, 4, 5, 6, 7, 8, 9, 10, 11] rfl hec (by decide) (by decide) hk1))).app ((vP_keep hJ (hP.l.l.l.l.l.l.l.l.l.r) [26, 27] [0, 1, 2, 3, 4, 5, 6, 7, 8, 9, 10, 11] rfl hec (by decide) (by decide) hk1))).app ((vP_keep hJ (hP.l.l.l.l.l.l.l.l.r) [28] [0, 1, 2, 3, 4, 5, 6, 7, 8, 9, 10, 11] rfl hec (by decide) (by decide) hk1))).app ((vP_keep hJ (hP.l.l.l.l.l.l.l.r) [29, 30, 31, 32, 33, 34, 35, 36, 37, 38, 39] [0, 1, 2, 3, 4, 5, 6, 7, 8, 9, 10, 11] rfl hec (by decide) (by decide) hk1))).app ((vP_keep hJ (hP.l.l.l.l.l.l.r) [40, 41] [0, 1, 2, 3, 4, 5, 6, 7, 8, 9, 10, 11] rfl hec (by decide) (by decide) hk1))).app ((vP_keep hJ (hP.l.l.l.l.l.r) [42, 43] [0, 1, 2, 3, 4, 5, 6, 7, 8, 9, 10, 11] rfl hec (by decide) (by decide) hk1))).app ((vP_keep hJ (hP.l.l.l.l.r) [44] [0, 1, 2, 3, 4, 5, 6, 7, 8, 9, 10, 11] rfl hec (by decide) (by decide) hk1))).app ((vP_keep hJ (hP.l.l.l.r) [45, 46, 47, 48, 49, 50, 51, 52, 53, 54, 55] [0, 1, 2, 3, 4, 5, 6, 7, 8, 9, 10, 11] rfl hec (by decide) (by decide) hk1))).app ((vP_keep hJ (hP.l.l.r) [56, 57, 58, 59] [0, 1, 2, 3, 4, 5, 6, 7, 8, 9, 10, 11] rfl hec (by decide) (by decide) hk1))).app ((vP_keep hJ (hP.l.r) [60, 61] [0, 1, 2, 3, 4, 5, 6, 7, 8, 9, 10, 11] rfl hec (by decide) (by decide) hk1))).app ((vP_keep hJ (hP.r) [62, 63, 64, 65, 66, 67, 68, 69, 70, 71, 72, 73] [0, 1, 2, 3, 4, 5, 6, 7, 8, 9, 10, 11] rfl hec (by decide) (by decide) hk1))
  generalize H1 = H at hP hS ⊢
  refine lv_aload_n hx hb dL_law_249 rfl (lv_at hl 2 rfl) ?_
  refine lv_aload_n hx hb dL_law_250 rfl (lv_at hl 0 rfl) ?_
  refine lv_iload_n hx hb dL_law_251 rfl (lv_at hl 3 rfl) ?_
  refine lv_iconst (v := 1) hx hb dL_law_252 (by decide) ?_
  refine lv_iadd hx hb dL_law_253 ?_
  obtain ⟨hi4, hf⟩ := gi_e hf
  refine va_sld hx hb hX hbl hbA hS hi4 dL_law_254 ?_
  refine lv_aload_n hx hb dL_law_255 rfl (lv_at hl 0 rfl) ?_
  refine lv_iload_n hx hb dL_law_256 rfl (lv_at hl 3 rfl) ?_
  refine lv_iconst (v := 2) hx hb dL_law_257 (by decide) ?_
  refine lv_iadd hx hb dL_law_258 ?_
  obtain ⟨hi5, hf⟩ := gi_e hf
  refine va_sld hx hb hX hbl hbA hS hi5 dL_law_259 ?_
  refine lv_aload_n hx hb dL_law_260 rfl (lv_at hl 0 rfl) ?_
  refine lv_iload_n hx hb dL_law_261 rfl (lv_at hl 3 rfl) ?_
  refine lv_iconst (v := 3) hx hb dL_law_262 (by decide) ?_
  refine lv_iadd hx hb dL_law_263 ?_
  obtain ⟨hi6, hf⟩ := gi_e hf
  refine va_sld hx hb hX hbl hbA hS hi6 dL_law_264 ?_
  obtain ⟨r265, hr265, hf⟩ := bn_e hf
  have hPc : va_P (dC, dI) vwCl (wM cs a M) _ := hP.r
  have hec : ((wM cs a M)).map Prod.fst = ([62, 63, 64, 65, 66, 67, 68, 69, 70, 71, 72, 73] : List Nat).map (adr g a) := rfl
  have hDc := vD_adr hJ [62, 63, 64, 65, 66, 67, 68, 69, 70, 71, 72, 73] (by decide) (by decide) hec
  have hFc := vF_adr hDc hS hA
  refine va_calli (va_runV (As := [.int ((xs ((x3 + (1 : Int32))).toNatClampNeg)), .int ((xs ((x3 + (2 : Int32))).toNatClampNeg)), .int ((xs ((x3 + (3 : Int32))).toNatClampNeg))]) (rest := [.int (r246.1)]) C (c_X8_person l dC dI cs a H.size M (xs ((x3 + (1 : Int32))).toNatClampNeg) (xs ((x3 + (2 : Int32))).toNatClampNeg) (xs ((x3 + (3 : Int32))).toNatClampNeg) r265 hr265) (cwV 3 hts gL_law_X8_person rfl rfl rfl (by decide +kernel) ⟨Nat.le_of_ble_eq_true rfl, Nat.le_of_ble_eq_true rfl⟩) ⟨(fun a U g mk q => ⟨q.1, q.2.1, q.2.2.1, GE.calling q.2.2.2.1, q.2.2.2.2⟩), va_recv hK hPc (ci := 8) (q0 := 0) rfl rfl, (fun U hU hW => ⟨rfl, by rw [hU], by rw [hU]; exact hPc, GE.warm hW G, hDc.weaken (fun _ _ _ _ => trivial)⟩)⟩ rfl rfl hl.1 rfl (lv_room (Nat.le_of_ble_eq_true rfl)) dL_law_265 ⟨Nat.le_of_ble_eq_true rfl, Nat.le_of_ble_eq_true rfl⟩) hS (fun q _ h => hFc q h) hFc (fun q u t H1 locs ht hvm hw hB hz1 hk1 hS => ?_)
  obtain ⟨rfl, rfl⟩ := hw
  obtain ⟨hP1, -⟩ := hB
  rw [ht] at hP1
  have hP : va_P (dC, dI) vwCl (wAll cs g a r246.2.1 r246.2.2 P I1 T1 P1 I2 T2 P2 X R L K r265.2) H1 := (((((((((((((((vP_keep hJ (hP.l.l.l.l.l.l.l.l.l.l.l.l.l.l) [0] [62, 63, 64, 65, 66, 67, 68, 69, 70, 71, 72, 73] rfl hec (by decide) (by decide) hk1)).app ((vP_keep hJ (hP.l.l.l.l.l.l.l.l.l.l.l.l.l.r) [1, 2, 3, 4, 5, 6, 7, 8, 9, 10, 11] [62, 63, 64, 65, 66, 67, 68, 69, 70, 71, 72, 73] rfl hec (by decide) (by decide) hk1))).app ((vP_keep hJ (hP.l.l.l.l.l.l.l.l.l.l.l.l.r) [12, 13] [62, 63, 64, 65, 66, 67, 68, 69, 70, 71, 72, 73] rfl hec (by decide) (by decide) hk1))).app ((vP_keep hJ (hP.l.l.l.l.l.l.l.l.l.l.l.r) [14] [62, 63, 64, 65, 66, 67, 68, 69, 70, 71, 72, 73] rfl hec (by decide) (by decide) hk1))).app ((vP_keep hJ (hP.l.l.l.l.l.l.l.l.l.l.r) [15, 16, 17, 18, 19, 20, 21, 22, 23, 24, 25] [62, 63, 64, 65, 66, 67, 68, 69, 70, 71, 72, 73] rfl hec (by decide) (by decide) hk1))).app ((vP_keep hJ (hP.l.l.l.l.l.l.l.l.l.r) [26, 27] [62, 63, 64, 65, 66, 67, 68, 69, 70, 71, 72, 73] rfl hec (by decide) (by decide) hk1))).app ((vP_keep hJ (hP.l.l.l.l.l.l.l.l.r) [28] [62, 63, 64, 65, 66, 67, 68, 69, 70, 71, 72, 73] rfl hec (by decide) (by decide) hk1))).app ((vP_keep hJ (hP.l.l.l.l.l.l.l.r) [29, 30, 31, 32, 33, 34, 35, 36, 37, 38, 39] [62, 63, 64, 65, 66, 67, 68, 69, 70, 71, 72, 73] rfl hec (by decide) (by decide) hk1))).app ((vP_keep hJ (hP.l.l.l.l.l.l.r) [40, 41] [62, 63, 64, 65, 66, 67, 68, 69, 70, 71, 72, 73] rfl hec (by decide) (by decide) hk1))).app ((vP_keep hJ (hP.l.l.l.l.l.r) [42, 43] [62, 63, 64, 65, 66, 67, 68, 69, 70, 71, 72, 73] rfl hec (by decide) (by decide) hk1))).app ((vP_keep hJ (hP.l.l.l.l.r) [44] [62, 63, 64, 65, 66, 67, 68, 69, 70, 71, 72, 73] rfl hec (by decide) (by decide) hk1))).app ((vP_keep hJ (hP.l.l.l.r) [45, 46, 47, 48, 49, 50, 51, 52, 53, 54, 55] [62, 63, 64, 65, 66, 67, 68, 69, 70, 71, 72, 73] rfl hec (by decide) (by decide) hk1))).app ((vP_keep hJ (hP.l.l.r) [56, 57, 58, 59] [62, 63, 64, 65, 66, 67, 68, 69, 70, 71, 72, 73] rfl hec (by decide) (by decide) hk1))).app ((vP_keep hJ (hP.l.r) [60, 61] [62, 63, 64, 65, 66, 67, 68, 69, 70, 71, 72, 73] rfl hec (by decide) (by decide) hk1))).app (hP1)
  generalize H1 = H at hP hS ⊢
  refine lv_icmp_eq (tgt := 1128) hx hb dL_law_268 (by decide) (fun c7 => ?_) (fun c7 => ?_)
  · replace hf := it_t c7 hf
    exact b_L_law_1128 C G hX hbl hbA hE hJ hA hR x3 r246.2.1 r246.2.2 P I1 T1 P1 I2 T2 P2 X R L K r265.2 hK18 _ _ _ (lv_sub hl [0, 1, 2, 3] rfl) hP hS hf
  · replace hf := it_f c7 hf
    refine lv_iconst (v := 0) hx hb dL_law_271 (by decide) ?_
    exact hR _ _ _ _ _ dL_law_272 hf hS
def f_L_law_273 (Ls : Nat) (xs : Nat → Int32) (x3 : Int32) (B : Nat → Int32) (N : Tw) (P : Ps) (I1 : Int32) (T1 : Tw) (P1 : Ps) (I2 : Int32) (T2 : Tw) (P2 : Ps) (X : Tx) (R : Tw) (L : Wl) (K : Ch) (M : Ms) (K18 : Int32 → (Nat → Int32) → Tw → Ps → Int32 → Tw → Ps → Int32 → Tw → Ps → Tx → Tw → Wl → Ch → Ms → Option Int32) : Option Int32 :=
  gi ((x3 + (1 : Int32))) Ls <|
  gi ((x3 + (2 : Int32))) Ls <|
  gi ((x3 + (3 : Int32))) Ls <|
  bn (f_X7_loan (xs ((x3 + (1 : Int32))).toNatClampNeg) (xs ((x3 + (2 : Int32))).toNatClampNeg) (xs ((x3 + (3 : Int32))).toNatClampNeg) B N) fun r289 =>
  gi ((x3 + (1 : Int32))) Ls <|
  gi ((x3 + (2 : Int32))) Ls <|
  gi ((x3 + (3 : Int32))) Ls <|
  bn (f_X8_loan (xs ((x3 + (1 : Int32))).toNatClampNeg) (xs ((x3 + (2 : Int32))).toNatClampNeg) (xs ((x3 + (3 : Int32))).toNatClampNeg) M) fun r308 =>
  if r289.1 = r308.1 then (
    f_L_law_1128 Ls xs x3 r289.2.1 r289.2.2 P I1 T1 P1 I2 T2 P2 X R L K r308.2 K18
  ) else (
    some (0 : Int32)
  )
set_option maxHeartbeats 4000000 in
set_option maxRecDepth 100000 in
theorem b_L_law_273 {p : Program} {l : Launch} {e : Env} {s : State} {m : MethodId} {args : Array Value} {below : List Frame} {meth : Method} {c : Code} {Q : State → Prop} {dC : Nat → ClassId} {dI : Nat → Nat → Nat} {cs : Nat → ClassId} {A : Nat → Prop} {g : Nat → Nat} {adK : Nat → Nat} {adV : Nat → Nat} {b : Nat} {a : Nat → Nat} {Ls : Nat} {xs : Nat → Int32} {res : Int32} (C : CallFix p m c cL_law 4 s args wsL_law RL) (G : GE dC dI cs s) (hX : va_X b Ls xs s s.heap) (hbl : b < s.heap.size) (hbA : ¬ A b) (hE : SE adK adV A s s.heap) (hJ : adI A (adr g a) 74) (hA : ∀ q : Nat, s.heap.size ≤ q → A q) (hR : RTw p l e s m args below meth c Q A res) (x3 : Int32) (B : Nat → Int32) (N : Tw) (P : Ps) (I1 : Int32) (T1 : Tw) (P1 : Ps) (I2 : Int32) (T2 : Tw) (P2 : Ps) (X : Tx) (R : Tw) (L : Wl) (K : Ch) (M : Ms) {K18 : Int32 → (Nat → Int32) → Tw → Ps → Int32 → Tw → Ps → Int32 → Tw → Ps → Tx → Tw → Wl → Ch → Ms → Option Int32} (hK18 : ∀ (x3 : Int32) (B : Nat → Int32) (N : Tw) (P : Ps) (I1 : Int32) (T1 : Tw) (P1 : Ps) (I2 : Int32) (T2 : Tw) (P2 : Ps) (X : Tx) (R : Tw) (L : Wl) (K : Ch) (M : Ms) (H : Heap) (locs : List Loc) (ls : Array Slot), lv_has ls 4 [(0, .ref b), (1, .ref (g 0)), (2, .ref (a 0)), (3, .int (x3))] → va_P (dC, dI) vwCl (wAll cs g a B N P I1 T1 P1 I2 T2 P2 X R L K M) H → va_S A s.heap H locs → K18 x3 B N P I1 T1 P1 I2 T2 P2 X R L K M = some res → W p l e room_1 s m args below meth c H locs 74 3434 Q (F0 m 18 ls [])) (H : Heap) (locs : List Loc) (ls : Array Slot) (hl : lv_has ls 4 [(0, .ref b), (1, .ref (g 0)), (2, .ref (a 0)), (3, .int (x3))]) (hP : va_P (dC, dI) vwCl (wAll cs g a B N P I1 T1 P1 I2 T2 P2 X R L K M) H) (hS : va_S A s.heap H locs) (hf : f_L_law_273 Ls xs x3 B N P I1 T1 P1 I2 T2 P2 X R L K M K18 = some res) : W p l e room_1 s m args below meth c H locs 74 3434 Q (F0 m 273 ls []) := by
  obtain ⟨hx, hb, hml, hown, hts⟩ := id C
  obtain ⟨hK, hN⟩ := id G
  unfold f_L_law_273 at hf
  refine lv_aload_n hx hb dL_law_273 rfl (lv_at hl 1 rfl) ?_
  refine lv_aload_n hx hb dL_law_274 rfl (lv_at hl 0 rfl) ?_
  refine lv_iload_n hx hb dL_law_275 rfl (lv_at hl 3 rfl) ?_
  refine lv_iconst (v := 1) hx hb dL_law_276 (by decide) ?_
  refine lv_iadd hx hb dL_law_277 ?_
  obtain ⟨hi1, hf⟩ := gi_e hf
  refine va_sld hx hb hX hbl hbA hS hi1 dL_law_278 ?_
  refine lv_aload_n hx hb dL_law_279 rfl (lv_at hl 0 rfl) ?_
  refine lv_iload_n hx hb dL_law_280 rfl (lv_at hl 3 rfl) ?_
  refine lv_iconst (v := 2) hx hb dL_law_281 (by decide) ?_
  refine lv_iadd hx hb dL_law_282 ?_
  obtain ⟨hi2, hf⟩ := gi_e hf
  refine va_sld hx hb hX hbl hbA hS hi2 dL_law_283 ?_
  refine lv_aload_n hx hb dL_law_284 rfl (lv_at hl 0 rfl) ?_
  refine lv_iload_n hx hb dL_law_285 rfl (lv_at hl 3 rfl) ?_
  refine lv_iconst (v := 3) hx hb dL_law_286 (by decide) ?_
  refine lv_iadd hx hb dL_law_287 ?_
  obtain ⟨hi3, hf⟩ := gi_e hf
  refine va_sld hx hb hX hbl hbA hS hi3 dL_law_288 ?_
  obtain ⟨r289, hr289, hf⟩ := bn_e hf
  have hPc : va_P (dC, dI) vwCl (wB g B ++ wT cs (fun i => g (1 + i)) N) _ := (hP.l.l.l.l.l.l.l.l.l.l.l.l.l.l).app (hP.l.l.l.l.l.l.l.l.l.l.l.l.l.r)
  have hec : ((wB g B ++ wT cs (fun i => g (1 + i)) N)).map Prod.fst = ([0, 1, 2, 3, 4, 5, 6, 7, 8, 9, 10, 11] : List Nat).map (adr g a) := rfl
  have hDc := vD_adr hJ [0, 1, 2, 3, 4, 5, 6, 7, 8, 9, 10, 11] (by decide) (by decide) hec
  have hFc := vF_adr hDc hS hA
  refine va_calli (va_runV (As := [.int ((xs ((x3 + (1 : Int32))).toNatClampNeg)), .int ((xs ((x3 + (2 : Int32))).toNatClampNeg)), .int ((xs ((x3 + (3 : Int32))).toNatClampNeg))]) (rest := []) C (c_X7_loan l dC dI cs g H.size B N (xs ((x3 + (1 : Int32))).toNatClampNeg) (xs ((x3 + (2 : Int32))).toNatClampNeg) (xs ((x3 + (3 : Int32))).toNatClampNeg) r289 hr289) (cwV 3 hts gL_law_X7_loan rfl rfl rfl (by decide +kernel) ⟨Nat.le_of_ble_eq_true rfl, Nat.le_of_ble_eq_true rfl⟩) ⟨(fun a U g mk q => ⟨q.1, q.2.1, q.2.2.1, GE.calling q.2.2.2.1, q.2.2.2.2⟩), va_recv hK hPc (ci := 7) (q0 := 0) rfl rfl, (fun U hU hW => ⟨rfl, by rw [hU], by rw [hU]; exact hPc, GE.warm hW G, hDc.weaken (fun _ _ _ _ => trivial)⟩)⟩ rfl rfl hl.1 rfl (lv_room (Nat.le_of_ble_eq_true rfl)) dL_law_289 ⟨Nat.le_of_ble_eq_true rfl, Nat.le_of_ble_eq_true rfl⟩) hS (fun q _ h => hFc q h) hFc (fun q u t H1 locs ht hvm hw hB hz1 hk1 hS => ?_)
  obtain ⟨rfl, rfl⟩ := hw
  obtain ⟨hP1, -⟩ := hB
  rw [ht] at hP1
  have hP : va_P (dC, dI) vwCl (wAll cs g a r289.2.1 r289.2.2 P I1 T1 P1 I2 T2 P2 X R L K M) H1 := ((((((((((((((hP1.l).app (hP1.r)).app ((vP_keep hJ (hP.l.l.l.l.l.l.l.l.l.l.l.l.r) [12, 13] [0, 1, 2, 3, 4, 5, 6, 7, 8, 9, 10, 11] rfl hec (by decide) (by decide) hk1))).app ((vP_keep hJ (hP.l.l.l.l.l.l.l.l.l.l.l.r) [14] [0, 1, 2, 3, 4, 5, 6, 7, 8, 9, 10, 11] rfl hec (by decide) (by decide) hk1))).app ((vP_keep hJ (hP.l.l.l.l.l.l.l.l.l.l.r) [15, 16, 17, 18, 19, 20, 21, 22, 23, 24, 25] [0, 1, 2, 3, 4, 5, 6, 7, 8, 9, 10, 11] rfl hec (by decide) (by decide) hk1))).app ((vP_keep hJ (hP.l.l.l.l.l.l.l.l.l.r) [26, 27] [0, 1, 2, 3, 4, 5, 6, 7, 8, 9, 10, 11] rfl hec (by decide) (by decide) hk1))).app ((vP_keep hJ (hP.l.l.l.l.l.l.l.l.r) [28] [0, 1, 2, 3, 4, 5, 6, 7, 8, 9, 10, 11] rfl hec (by decide) (by decide) hk1))).app ((vP_keep hJ (hP.l.l.l.l.l.l.l.r) [29, 30, 31, 32, 33, 34, 35, 36, 37, 38, 39] [0, 1, 2, 3, 4, 5, 6, 7, 8, 9, 10, 11] rfl hec (by decide) (by decide) hk1))).app ((vP_keep hJ (hP.l.l.l.l.l.l.r) [40, 41] [0, 1, 2, 3, 4, 5, 6, 7, 8, 9, 10, 11] rfl hec (by decide) (by decide) hk1))).app ((vP_keep hJ (hP.l.l.l.l.l.r) [42, 43] [0, 1, 2, 3, 4, 5, 6, 7, 8, 9, 10, 11] rfl hec (by decide) (by decide) hk1))).app ((vP_keep hJ (hP.l.l.l.l.r) [44] [0, 1, 2, 3, 4, 5, 6, 7, 8, 9, 10, 11] rfl hec (by decide) (by decide) hk1))).app ((vP_keep hJ (hP.l.l.l.r) [45, 46, 47, 48, 49, 50, 51, 52, 53, 54, 55] [0, 1, 2, 3, 4, 5, 6, 7, 8, 9, 10, 11] rfl hec (by decide) (by decide) hk1))).app ((vP_keep hJ (hP.l.l.r) [56, 57, 58, 59] [0, 1, 2, 3, 4, 5, 6, 7, 8, 9, 10, 11] rfl hec (by decide) (by decide) hk1))).app ((vP_keep hJ (hP.l.r) [60, 61] [0, 1, 2, 3, 4, 5, 6, 7, 8, 9, 10, 11] rfl hec (by decide) (by decide) hk1))).app ((vP_keep hJ (hP.r) [62, 63, 64, 65, 66, 67, 68, 69, 70, 71, 72, 73] [0, 1, 2, 3, 4, 5, 6, 7, 8, 9, 10, 11] rfl hec (by decide) (by decide) hk1))
  generalize H1 = H at hP hS ⊢
  refine lv_aload_n hx hb dL_law_292 rfl (lv_at hl 2 rfl) ?_
  refine lv_aload_n hx hb dL_law_293 rfl (lv_at hl 0 rfl) ?_
  refine lv_iload_n hx hb dL_law_294 rfl (lv_at hl 3 rfl) ?_
  refine lv_iconst (v := 1) hx hb dL_law_295 (by decide) ?_
  refine lv_iadd hx hb dL_law_296 ?_
  obtain ⟨hi4, hf⟩ := gi_e hf
  refine va_sld hx hb hX hbl hbA hS hi4 dL_law_297 ?_
  refine lv_aload_n hx hb dL_law_298 rfl (lv_at hl 0 rfl) ?_
  refine lv_iload_n hx hb dL_law_299 rfl (lv_at hl 3 rfl) ?_
  refine lv_iconst (v := 2) hx hb dL_law_300 (by decide) ?_
  refine lv_iadd hx hb dL_law_301 ?_
  obtain ⟨hi5, hf⟩ := gi_e hf
  refine va_sld hx hb hX hbl hbA hS hi5 dL_law_302 ?_
  refine lv_aload_n hx hb dL_law_303 rfl (lv_at hl 0 rfl) ?_
  refine lv_iload_n hx hb dL_law_304 rfl (lv_at hl 3 rfl) ?_
  refine lv_iconst (v := 3) hx hb dL_law_305 (by decide) ?_
  refine lv_iadd hx hb dL_law_306 ?_
  obtain ⟨hi6, hf⟩ := gi_e hf
  refine va_sld hx hb hX hbl hbA hS hi6 dL_law_307 ?_
  obtain ⟨r308, hr308, hf⟩ := bn_e hf
  have hPc : va_P (dC, dI) vwCl (wM cs a M) _ := hP.r
  have hec : ((wM cs a M)).map Prod.fst = ([62, 63, 64, 65, 66, 67, 68, 69, 70, 71, 72, 73] : List Nat).map (adr g a) := rfl
  have hDc := vD_adr hJ [62, 63, 64, 65, 66, 67, 68, 69, 70, 71, 72, 73] (by decide) (by decide) hec
  have hFc := vF_adr hDc hS hA
  refine va_calli (va_runV (As := [.int ((xs ((x3 + (1 : Int32))).toNatClampNeg)), .int ((xs ((x3 + (2 : Int32))).toNatClampNeg)), .int ((xs ((x3 + (3 : Int32))).toNatClampNeg))]) (rest := [.int (r289.1)]) C (c_X8_loan l dC dI cs a H.size M (xs ((x3 + (1 : Int32))).toNatClampNeg) (xs ((x3 + (2 : Int32))).toNatClampNeg) (xs ((x3 + (3 : Int32))).toNatClampNeg) r308 hr308) (cwV 3 hts gL_law_X8_loan rfl rfl rfl (by decide +kernel) ⟨Nat.le_of_ble_eq_true rfl, Nat.le_of_ble_eq_true rfl⟩) ⟨(fun a U g mk q => ⟨q.1, q.2.1, q.2.2.1, GE.calling q.2.2.2.1, q.2.2.2.2⟩), va_recv hK hPc (ci := 8) (q0 := 0) rfl rfl, (fun U hU hW => ⟨rfl, by rw [hU], by rw [hU]; exact hPc, GE.warm hW G, hDc.weaken (fun _ _ _ _ => trivial)⟩)⟩ rfl rfl hl.1 rfl (lv_room (Nat.le_of_ble_eq_true rfl)) dL_law_308 ⟨Nat.le_of_ble_eq_true rfl, Nat.le_of_ble_eq_true rfl⟩) hS (fun q _ h => hFc q h) hFc (fun q u t H1 locs ht hvm hw hB hz1 hk1 hS => ?_)
  obtain ⟨rfl, rfl⟩ := hw
  obtain ⟨hP1, -⟩ := hB
  rw [ht] at hP1
  have hP : va_P (dC, dI) vwCl (wAll cs g a r289.2.1 r289.2.2 P I1 T1 P1 I2 T2 P2 X R L K r308.2) H1 := (((((((((((((((vP_keep hJ (hP.l.l.l.l.l.l.l.l.l.l.l.l.l.l) [0] [62, 63, 64, 65, 66, 67, 68, 69, 70, 71, 72, 73] rfl hec (by decide) (by decide) hk1)).app ((vP_keep hJ (hP.l.l.l.l.l.l.l.l.l.l.l.l.l.r) [1, 2, 3, 4, 5, 6, 7, 8, 9, 10, 11] [62, 63, 64, 65, 66, 67, 68, 69, 70, 71, 72, 73] rfl hec (by decide) (by decide) hk1))).app ((vP_keep hJ (hP.l.l.l.l.l.l.l.l.l.l.l.l.r) [12, 13] [62, 63, 64, 65, 66, 67, 68, 69, 70, 71, 72, 73] rfl hec (by decide) (by decide) hk1))).app ((vP_keep hJ (hP.l.l.l.l.l.l.l.l.l.l.l.r) [14] [62, 63, 64, 65, 66, 67, 68, 69, 70, 71, 72, 73] rfl hec (by decide) (by decide) hk1))).app ((vP_keep hJ (hP.l.l.l.l.l.l.l.l.l.l.r) [15, 16, 17, 18, 19, 20, 21, 22, 23, 24, 25] [62, 63, 64, 65, 66, 67, 68, 69, 70, 71, 72, 73] rfl hec (by decide) (by decide) hk1))).app ((vP_keep hJ (hP.l.l.l.l.l.l.l.l.l.r) [26, 27] [62, 63, 64, 65, 66, 67, 68, 69, 70, 71, 72, 73] rfl hec (by decide) (by decide) hk1))).app ((vP_keep hJ (hP.l.l.l.l.l.l.l.l.r) [28] [62, 63, 64, 65, 66, 67, 68, 69, 70, 71, 72, 73] rfl hec (by decide) (by decide) hk1))).app ((vP_keep hJ (hP.l.l.l.l.l.l.l.r) [29, 30, 31, 32, 33, 34, 35, 36, 37, 38, 39] [62, 63, 64, 65, 66, 67, 68, 69, 70, 71, 72, 73] rfl hec (by decide) (by decide) hk1))).app ((vP_keep hJ (hP.l.l.l.l.l.l.r) [40, 41] [62, 63, 64, 65, 66, 67, 68, 69, 70, 71, 72, 73] rfl hec (by decide) (by decide) hk1))).app ((vP_keep hJ (hP.l.l.l.l.l.r) [42, 43] [62, 63, 64, 65, 66, 67, 68, 69, 70, 71, 72, 73] rfl hec (by decide) (by decide) hk1))).app ((vP_keep hJ (hP.l.l.l.l.r) [44] [62, 63, 64, 65, 66, 67, 68, 69, 70, 71, 72, 73] rfl hec (by decide) (by decide) hk1))).app ((vP_keep hJ (hP.l.l.l.r) [45, 46, 47, 48, 49, 50, 51, 52, 53, 54, 55] [62, 63, 64, 65, 66, 67, 68, 69, 70, 71, 72, 73] rfl hec (by decide) (by decide) hk1))).app ((vP_keep hJ (hP.l.l.r) [56, 57, 58, 59] [62, 63, 64, 65, 66, 67, 68, 69, 70, 71, 72, 73] rfl hec (by decide) (by decide) hk1))).app ((vP_keep hJ (hP.l.r) [60, 61] [62, 63, 64, 65, 66, 67, 68, 69, 70, 71, 72, 73] rfl hec (by decide) (by decide) hk1))).app (hP1)
  generalize H1 = H at hP hS ⊢
  refine lv_icmp_eq (tgt := 1128) hx hb dL_law_311 (by decide) (fun c7 => ?_) (fun c7 => ?_)
  · replace hf := it_t c7 hf
    exact b_L_law_1128 C G hX hbl hbA hE hJ hA hR x3 r289.2.1 r289.2.2 P I1 T1 P1 I2 T2 P2 X R L K r308.2 hK18 _ _ _ (lv_sub hl [0, 1, 2, 3] rfl) hP hS hf
  · replace hf := it_f c7 hf
    refine lv_iconst (v := 0) hx hb dL_law_314 (by decide) ?_
    exact hR _ _ _ _ _ dL_law_315 hf hS
def f_L_law_316 (Ls : Nat) (xs : Nat → Int32) (x3 : Int32) (B : Nat → Int32) (N : Tw) (P : Ps) (I1 : Int32) (T1 : Tw) (P1 : Ps) (I2 : Int32) (T2 : Tw) (P2 : Ps) (X : Tx) (R : Tw) (L : Wl) (K : Ch) (M : Ms) (K18 : Int32 → (Nat → Int32) → Tw → Ps → Int32 → Tw → Ps → Int32 → Tw → Ps → Tx → Tw → Wl → Ch → Ms → Option Int32) : Option Int32 :=
  gi ((x3 + (1 : Int32))) Ls <|
  gi ((x3 + (2 : Int32))) Ls <|
  bn (f_X7_offer (xs ((x3 + (1 : Int32))).toNatClampNeg) (xs ((x3 + (2 : Int32))).toNatClampNeg) B N) fun r327 =>
  gi ((x3 + (1 : Int32))) Ls <|
  gi ((x3 + (2 : Int32))) Ls <|
  bn (f_X8_offer (xs ((x3 + (1 : Int32))).toNatClampNeg) (xs ((x3 + (2 : Int32))).toNatClampNeg) M) fun r341 =>
  if r327.1 = r341.1 then (
    f_L_law_1128 Ls xs x3 r327.2.1 r327.2.2 P I1 T1 P1 I2 T2 P2 X R L K r341.2 K18
  ) else (
    some (0 : Int32)
  )
set_option maxHeartbeats 4000000 in
set_option maxRecDepth 100000 in
theorem b_L_law_316 {p : Program} {l : Launch} {e : Env} {s : State} {m : MethodId} {args : Array Value} {below : List Frame} {meth : Method} {c : Code} {Q : State → Prop} {dC : Nat → ClassId} {dI : Nat → Nat → Nat} {cs : Nat → ClassId} {A : Nat → Prop} {g : Nat → Nat} {adK : Nat → Nat} {adV : Nat → Nat} {b : Nat} {a : Nat → Nat} {Ls : Nat} {xs : Nat → Int32} {res : Int32} (C : CallFix p m c cL_law 4 s args wsL_law RL) (G : GE dC dI cs s) (hX : va_X b Ls xs s s.heap) (hbl : b < s.heap.size) (hbA : ¬ A b) (hE : SE adK adV A s s.heap) (hJ : adI A (adr g a) 74) (hA : ∀ q : Nat, s.heap.size ≤ q → A q) (hR : RTw p l e s m args below meth c Q A res) (x3 : Int32) (B : Nat → Int32) (N : Tw) (P : Ps) (I1 : Int32) (T1 : Tw) (P1 : Ps) (I2 : Int32) (T2 : Tw) (P2 : Ps) (X : Tx) (R : Tw) (L : Wl) (K : Ch) (M : Ms) {K18 : Int32 → (Nat → Int32) → Tw → Ps → Int32 → Tw → Ps → Int32 → Tw → Ps → Tx → Tw → Wl → Ch → Ms → Option Int32} (hK18 : ∀ (x3 : Int32) (B : Nat → Int32) (N : Tw) (P : Ps) (I1 : Int32) (T1 : Tw) (P1 : Ps) (I2 : Int32) (T2 : Tw) (P2 : Ps) (X : Tx) (R : Tw) (L : Wl) (K : Ch) (M : Ms) (H : Heap) (locs : List Loc) (ls : Array Slot), lv_has ls 4 [(0, .ref b), (1, .ref (g 0)), (2, .ref (a 0)), (3, .int (x3))] → va_P (dC, dI) vwCl (wAll cs g a B N P I1 T1 P1 I2 T2 P2 X R L K M) H → va_S A s.heap H locs → K18 x3 B N P I1 T1 P1 I2 T2 P2 X R L K M = some res → W p l e room_1 s m args below meth c H locs 74 3434 Q (F0 m 18 ls [])) (H : Heap) (locs : List Loc) (ls : Array Slot) (hl : lv_has ls 4 [(0, .ref b), (1, .ref (g 0)), (2, .ref (a 0)), (3, .int (x3))]) (hP : va_P (dC, dI) vwCl (wAll cs g a B N P I1 T1 P1 I2 T2 P2 X R L K M) H) (hS : va_S A s.heap H locs) (hf : f_L_law_316 Ls xs x3 B N P I1 T1 P1 I2 T2 P2 X R L K M K18 = some res) : W p l e room_1 s m args below meth c H locs 74 3434 Q (F0 m 316 ls []) := by
  obtain ⟨hx, hb, hml, hown, hts⟩ := id C
  obtain ⟨hK, hN⟩ := id G
  unfold f_L_law_316 at hf
  refine lv_aload_n hx hb dL_law_316 rfl (lv_at hl 1 rfl) ?_
  refine lv_aload_n hx hb dL_law_317 rfl (lv_at hl 0 rfl) ?_
  refine lv_iload_n hx hb dL_law_318 rfl (lv_at hl 3 rfl) ?_
  refine lv_iconst (v := 1) hx hb dL_law_319 (by decide) ?_
  refine lv_iadd hx hb dL_law_320 ?_
  obtain ⟨hi1, hf⟩ := gi_e hf
  refine va_sld hx hb hX hbl hbA hS hi1 dL_law_321 ?_
  refine lv_aload_n hx hb dL_law_322 rfl (lv_at hl 0 rfl) ?_
  refine lv_iload_n hx hb dL_law_323 rfl (lv_at hl 3 rfl) ?_
  refine lv_iconst (v := 2) hx hb dL_law_324 (by decide) ?_
  refine lv_iadd hx hb dL_law_325 ?_
  obtain ⟨hi2, hf⟩ := gi_e hf
  refine va_sld hx hb hX hbl hbA hS hi2 dL_law_326 ?_
  obtain ⟨r327, hr327, hf⟩ := bn_e hf
  have hPc : va_P (dC, dI) vwCl (wB g B ++ wT cs (fun i => g (1 + i)) N) _ := (hP.l.l.l.l.l.l.l.l.l.l.l.l.l.l).app (hP.l.l.l.l.l.l.l.l.l.l.l.l.l.r)
  have hec : ((wB g B ++ wT cs (fun i => g (1 + i)) N)).map Prod.fst = ([0, 1, 2, 3, 4, 5, 6, 7, 8, 9, 10, 11] : List Nat).map (adr g a) := rfl
  have hDc := vD_adr hJ [0, 1, 2, 3, 4, 5, 6, 7, 8, 9, 10, 11] (by decide) (by decide) hec
  have hFc := vF_adr hDc hS hA
  refine va_calli (va_runV (As := [.int ((xs ((x3 + (1 : Int32))).toNatClampNeg)), .int ((xs ((x3 + (2 : Int32))).toNatClampNeg))]) (rest := []) C (c_X7_offer l dC dI cs g H.size B N (xs ((x3 + (1 : Int32))).toNatClampNeg) (xs ((x3 + (2 : Int32))).toNatClampNeg) r327 hr327) (cwV 2 hts gL_law_X7_offer rfl rfl rfl (by decide +kernel) ⟨Nat.le_of_ble_eq_true rfl, Nat.le_of_ble_eq_true rfl⟩) ⟨(fun a U g mk q => ⟨q.1, q.2.1, q.2.2.1, GE.calling q.2.2.2.1, q.2.2.2.2⟩), va_recv hK hPc (ci := 7) (q0 := 0) rfl rfl, (fun U hU hW => ⟨rfl, by rw [hU], by rw [hU]; exact hPc, GE.warm hW G, hDc.weaken (fun _ _ _ _ => trivial)⟩)⟩ rfl rfl hl.1 rfl (lv_room (Nat.le_of_ble_eq_true rfl)) dL_law_327 ⟨Nat.le_of_ble_eq_true rfl, Nat.le_of_ble_eq_true rfl⟩) hS (fun q _ h => hFc q h) hFc (fun q u t H1 locs ht hvm hw hB hz1 hk1 hS => ?_)
  obtain ⟨rfl, rfl⟩ := hw
  obtain ⟨hP1, -⟩ := hB
  rw [ht] at hP1
  have hP : va_P (dC, dI) vwCl (wAll cs g a r327.2.1 r327.2.2 P I1 T1 P1 I2 T2 P2 X R L K M) H1 := ((((((((((((((hP1.l).app (hP1.r)).app ((vP_keep hJ (hP.l.l.l.l.l.l.l.l.l.l.l.l.r) [12, 13] [0, 1, 2, 3, 4, 5, 6, 7, 8, 9, 10, 11] rfl hec (by decide) (by decide) hk1))).app ((vP_keep hJ (hP.l.l.l.l.l.l.l.l.l.l.l.r) [14] [0, 1, 2, 3, 4, 5, 6, 7, 8, 9, 10, 11] rfl hec (by decide) (by decide) hk1))).app ((vP_keep hJ (hP.l.l.l.l.l.l.l.l.l.l.r) [15, 16, 17, 18, 19, 20, 21, 22, 23, 24, 25] [0, 1, 2, 3, 4, 5, 6, 7, 8, 9, 10, 11] rfl hec (by decide) (by decide) hk1))).app ((vP_keep hJ (hP.l.l.l.l.l.l.l.l.l.r) [26, 27] [0, 1, 2, 3, 4, 5, 6, 7, 8, 9, 10, 11] rfl hec (by decide) (by decide) hk1))).app ((vP_keep hJ (hP.l.l.l.l.l.l.l.l.r) [28] [0, 1, 2, 3, 4, 5, 6, 7, 8, 9, 10, 11] rfl hec (by decide) (by decide) hk1))).app ((vP_keep hJ (hP.l.l.l.l.l.l.l.r) [29, 30, 31, 32, 33, 34, 35, 36, 37, 38, 39] [0, 1, 2, 3, 4, 5, 6, 7, 8, 9, 10, 11] rfl hec (by decide) (by decide) hk1))).app ((vP_keep hJ (hP.l.l.l.l.l.l.r) [40, 41] [0, 1, 2, 3, 4, 5, 6, 7, 8, 9, 10, 11] rfl hec (by decide) (by decide) hk1))).app ((vP_keep hJ (hP.l.l.l.l.l.r) [42, 43] [0, 1, 2, 3, 4, 5, 6, 7, 8, 9, 10, 11] rfl hec (by decide) (by decide) hk1))).app ((vP_keep hJ (hP.l.l.l.l.r) [44] [0, 1, 2, 3, 4, 5, 6, 7, 8, 9, 10, 11] rfl hec (by decide) (by decide) hk1))).app ((vP_keep hJ (hP.l.l.l.r) [45, 46, 47, 48, 49, 50, 51, 52, 53, 54, 55] [0, 1, 2, 3, 4, 5, 6, 7, 8, 9, 10, 11] rfl hec (by decide) (by decide) hk1))).app ((vP_keep hJ (hP.l.l.r) [56, 57, 58, 59] [0, 1, 2, 3, 4, 5, 6, 7, 8, 9, 10, 11] rfl hec (by decide) (by decide) hk1))).app ((vP_keep hJ (hP.l.r) [60, 61] [0, 1, 2, 3, 4, 5, 6, 7, 8, 9, 10, 11] rfl hec (by decide) (by decide) hk1))).app ((vP_keep hJ (hP.r) [62, 63, 64, 65, 66, 67, 68, 69, 70, 71, 72, 73] [0, 1, 2, 3, 4, 5, 6, 7, 8, 9, 10, 11] rfl hec (by decide) (by decide) hk1))
  generalize H1 = H at hP hS ⊢
  refine lv_aload_n hx hb dL_law_330 rfl (lv_at hl 2 rfl) ?_
  refine lv_aload_n hx hb dL_law_331 rfl (lv_at hl 0 rfl) ?_
  refine lv_iload_n hx hb dL_law_332 rfl (lv_at hl 3 rfl) ?_
  refine lv_iconst (v := 1) hx hb dL_law_333 (by decide) ?_
  refine lv_iadd hx hb dL_law_334 ?_
  obtain ⟨hi3, hf⟩ := gi_e hf
  refine va_sld hx hb hX hbl hbA hS hi3 dL_law_335 ?_
  refine lv_aload_n hx hb dL_law_336 rfl (lv_at hl 0 rfl) ?_
  refine lv_iload_n hx hb dL_law_337 rfl (lv_at hl 3 rfl) ?_
  refine lv_iconst (v := 2) hx hb dL_law_338 (by decide) ?_
  refine lv_iadd hx hb dL_law_339 ?_
  obtain ⟨hi4, hf⟩ := gi_e hf
  refine va_sld hx hb hX hbl hbA hS hi4 dL_law_340 ?_
  obtain ⟨r341, hr341, hf⟩ := bn_e hf
  have hPc : va_P (dC, dI) vwCl (wM cs a M) _ := hP.r
  have hec : ((wM cs a M)).map Prod.fst = ([62, 63, 64, 65, 66, 67, 68, 69, 70, 71, 72, 73] : List Nat).map (adr g a) := rfl
  have hDc := vD_adr hJ [62, 63, 64, 65, 66, 67, 68, 69, 70, 71, 72, 73] (by decide) (by decide) hec
  have hFc := vF_adr hDc hS hA
  refine va_calli (va_runV (As := [.int ((xs ((x3 + (1 : Int32))).toNatClampNeg)), .int ((xs ((x3 + (2 : Int32))).toNatClampNeg))]) (rest := [.int (r327.1)]) C (c_X8_offer l dC dI cs a H.size M (xs ((x3 + (1 : Int32))).toNatClampNeg) (xs ((x3 + (2 : Int32))).toNatClampNeg) r341 hr341) (cwV 2 hts gL_law_X8_offer rfl rfl rfl (by decide +kernel) ⟨Nat.le_of_ble_eq_true rfl, Nat.le_of_ble_eq_true rfl⟩) ⟨(fun a U g mk q => ⟨q.1, q.2.1, q.2.2.1, GE.calling q.2.2.2.1, q.2.2.2.2⟩), va_recv hK hPc (ci := 8) (q0 := 0) rfl rfl, (fun U hU hW => ⟨rfl, by rw [hU], by rw [hU]; exact hPc, GE.warm hW G, hDc.weaken (fun _ _ _ _ => trivial)⟩)⟩ rfl rfl hl.1 rfl (lv_room (Nat.le_of_ble_eq_true rfl)) dL_law_341 ⟨Nat.le_of_ble_eq_true rfl, Nat.le_of_ble_eq_true rfl⟩) hS (fun q _ h => hFc q h) hFc (fun q u t H1 locs ht hvm hw hB hz1 hk1 hS => ?_)
  obtain ⟨rfl, rfl⟩ := hw
  obtain ⟨hP1, -⟩ := hB
  rw [ht] at hP1
  have hP : va_P (dC, dI) vwCl (wAll cs g a r327.2.1 r327.2.2 P I1 T1 P1 I2 T2 P2 X R L K r341.2) H1 := (((((((((((((((vP_keep hJ (hP.l.l.l.l.l.l.l.l.l.l.l.l.l.l) [0] [62, 63, 64, 65, 66, 67, 68, 69, 70, 71, 72, 73] rfl hec (by decide) (by decide) hk1)).app ((vP_keep hJ (hP.l.l.l.l.l.l.l.l.l.l.l.l.l.r) [1, 2, 3, 4, 5, 6, 7, 8, 9, 10, 11] [62, 63, 64, 65, 66, 67, 68, 69, 70, 71, 72, 73] rfl hec (by decide) (by decide) hk1))).app ((vP_keep hJ (hP.l.l.l.l.l.l.l.l.l.l.l.l.r) [12, 13] [62, 63, 64, 65, 66, 67, 68, 69, 70, 71, 72, 73] rfl hec (by decide) (by decide) hk1))).app ((vP_keep hJ (hP.l.l.l.l.l.l.l.l.l.l.l.r) [14] [62, 63, 64, 65, 66, 67, 68, 69, 70, 71, 72, 73] rfl hec (by decide) (by decide) hk1))).app ((vP_keep hJ (hP.l.l.l.l.l.l.l.l.l.l.r) [15, 16, 17, 18, 19, 20, 21, 22, 23, 24, 25] [62, 63, 64, 65, 66, 67, 68, 69, 70, 71, 72, 73] rfl hec (by decide) (by decide) hk1))).app ((vP_keep hJ (hP.l.l.l.l.l.l.l.l.l.r) [26, 27] [62, 63, 64, 65, 66, 67, 68, 69, 70, 71, 72, 73] rfl hec (by decide) (by decide) hk1))).app ((vP_keep hJ (hP.l.l.l.l.l.l.l.l.r) [28] [62, 63, 64, 65, 66, 67, 68, 69, 70, 71, 72, 73] rfl hec (by decide) (by decide) hk1))).app ((vP_keep hJ (hP.l.l.l.l.l.l.l.r) [29, 30, 31, 32, 33, 34, 35, 36, 37, 38, 39] [62, 63, 64, 65, 66, 67, 68, 69, 70, 71, 72, 73] rfl hec (by decide) (by decide) hk1))).app ((vP_keep hJ (hP.l.l.l.l.l.l.r) [40, 41] [62, 63, 64, 65, 66, 67, 68, 69, 70, 71, 72, 73] rfl hec (by decide) (by decide) hk1))).app ((vP_keep hJ (hP.l.l.l.l.l.r) [42, 43] [62, 63, 64, 65, 66, 67, 68, 69, 70, 71, 72, 73] rfl hec (by decide) (by decide) hk1))).app ((vP_keep hJ (hP.l.l.l.l.r) [44] [62, 63, 64, 65, 66, 67, 68, 69, 70, 71, 72, 73] rfl hec (by decide) (by decide) hk1))).app ((vP_keep hJ (hP.l.l.l.r) [45, 46, 47, 48, 49, 50, 51, 52, 53, 54, 55] [62, 63, 64, 65, 66, 67, 68, 69, 70, 71, 72, 73] rfl hec (by decide) (by decide) hk1))).app ((vP_keep hJ (hP.l.l.r) [56, 57, 58, 59] [62, 63, 64, 65, 66, 67, 68, 69, 70, 71, 72, 73] rfl hec (by decide) (by decide) hk1))).app ((vP_keep hJ (hP.l.r) [60, 61] [62, 63, 64, 65, 66, 67, 68, 69, 70, 71, 72, 73] rfl hec (by decide) (by decide) hk1))).app (hP1)
  generalize H1 = H at hP hS ⊢
  refine lv_icmp_eq (tgt := 1128) hx hb dL_law_344 (by decide) (fun c5 => ?_) (fun c5 => ?_)
  · replace hf := it_t c5 hf
    exact b_L_law_1128 C G hX hbl hbA hE hJ hA hR x3 r327.2.1 r327.2.2 P I1 T1 P1 I2 T2 P2 X R L K r341.2 hK18 _ _ _ (lv_sub hl [0, 1, 2, 3] rfl) hP hS hf
  · replace hf := it_f c5 hf
    refine lv_iconst (v := 0) hx hb dL_law_347 (by decide) ?_
    exact hR _ _ _ _ _ dL_law_348 hf hS
def f_L_law_349 (Ls : Nat) (xs : Nat → Int32) (x3 : Int32) (B : Nat → Int32) (N : Tw) (P : Ps) (I1 : Int32) (T1 : Tw) (P1 : Ps) (I2 : Int32) (T2 : Tw) (P2 : Ps) (X : Tx) (R : Tw) (L : Wl) (K : Ch) (M : Ms) (K18 : Int32 → (Nat → Int32) → Tw → Ps → Int32 → Tw → Ps → Int32 → Tw → Ps → Tx → Tw → Wl → Ch → Ms → Option Int32) : Option Int32 :=
  bn (f_X7_none B N) fun r350 =>
  bn (f_X8_none M) fun r354 =>
  if r350.1 = r354.1 then (
    f_L_law_1128 Ls xs x3 B r350.2 P I1 T1 P1 I2 T2 P2 X R L K r354.2 K18
  ) else (
    some (0 : Int32)
  )
set_option maxHeartbeats 4000000 in
set_option maxRecDepth 100000 in
theorem b_L_law_349 {p : Program} {l : Launch} {e : Env} {s : State} {m : MethodId} {args : Array Value} {below : List Frame} {meth : Method} {c : Code} {Q : State → Prop} {dC : Nat → ClassId} {dI : Nat → Nat → Nat} {cs : Nat → ClassId} {A : Nat → Prop} {g : Nat → Nat} {adK : Nat → Nat} {adV : Nat → Nat} {b : Nat} {a : Nat → Nat} {Ls : Nat} {xs : Nat → Int32} {res : Int32} (C : CallFix p m c cL_law 4 s args wsL_law RL) (G : GE dC dI cs s) (hX : va_X b Ls xs s s.heap) (hbl : b < s.heap.size) (hbA : ¬ A b) (hE : SE adK adV A s s.heap) (hJ : adI A (adr g a) 74) (hA : ∀ q : Nat, s.heap.size ≤ q → A q) (hR : RTw p l e s m args below meth c Q A res) (x3 : Int32) (B : Nat → Int32) (N : Tw) (P : Ps) (I1 : Int32) (T1 : Tw) (P1 : Ps) (I2 : Int32) (T2 : Tw) (P2 : Ps) (X : Tx) (R : Tw) (L : Wl) (K : Ch) (M : Ms) {K18 : Int32 → (Nat → Int32) → Tw → Ps → Int32 → Tw → Ps → Int32 → Tw → Ps → Tx → Tw → Wl → Ch → Ms → Option Int32} (hK18 : ∀ (x3 : Int32) (B : Nat → Int32) (N : Tw) (P : Ps) (I1 : Int32) (T1 : Tw) (P1 : Ps) (I2 : Int32) (T2 : Tw) (P2 : Ps) (X : Tx) (R : Tw) (L : Wl) (K : Ch) (M : Ms) (H : Heap) (locs : List Loc) (ls : Array Slot), lv_has ls 4 [(0, .ref b), (1, .ref (g 0)), (2, .ref (a 0)), (3, .int (x3))] → va_P (dC, dI) vwCl (wAll cs g a B N P I1 T1 P1 I2 T2 P2 X R L K M) H → va_S A s.heap H locs → K18 x3 B N P I1 T1 P1 I2 T2 P2 X R L K M = some res → W p l e room_1 s m args below meth c H locs 74 3434 Q (F0 m 18 ls [])) (H : Heap) (locs : List Loc) (ls : Array Slot) (hl : lv_has ls 4 [(0, .ref b), (1, .ref (g 0)), (2, .ref (a 0)), (3, .int (x3))]) (hP : va_P (dC, dI) vwCl (wAll cs g a B N P I1 T1 P1 I2 T2 P2 X R L K M) H) (hS : va_S A s.heap H locs) (hf : f_L_law_349 Ls xs x3 B N P I1 T1 P1 I2 T2 P2 X R L K M K18 = some res) : W p l e room_1 s m args below meth c H locs 74 3434 Q (F0 m 349 ls []) := by
  obtain ⟨hx, hb, hml, hown, hts⟩ := id C
  obtain ⟨hK, hN⟩ := id G
  unfold f_L_law_349 at hf
  refine lv_aload_n hx hb dL_law_349 rfl (lv_at hl 1 rfl) ?_
  obtain ⟨r350, hr350, hf⟩ := bn_e hf
  have hPc : va_P (dC, dI) vwCl (wB g B ++ wT cs (fun i => g (1 + i)) N) _ := (hP.l.l.l.l.l.l.l.l.l.l.l.l.l.l).app (hP.l.l.l.l.l.l.l.l.l.l.l.l.l.r)
  have hec : ((wB g B ++ wT cs (fun i => g (1 + i)) N)).map Prod.fst = ([0, 1, 2, 3, 4, 5, 6, 7, 8, 9, 10, 11] : List Nat).map (adr g a) := rfl
  have hDc := vD_adr hJ [0, 1, 2, 3, 4, 5, 6, 7, 8, 9, 10, 11] (by decide) (by decide) hec
  have hFc := vF_adr hDc hS hA
  refine va_calli (va_runV (As := []) (rest := []) C (c_X7_none l dC dI cs g H.size B N r350 hr350) (cwV 0 hts gL_law_X7_none rfl rfl rfl (by decide +kernel) ⟨Nat.le_of_ble_eq_true rfl, Nat.le_of_ble_eq_true rfl⟩) ⟨(fun a U g mk q => ⟨q.1, q.2.1, q.2.2.1, GE.calling q.2.2.2.1, q.2.2.2.2⟩), va_recv hK hPc (ci := 7) (q0 := 0) rfl rfl, (fun U hU hW => ⟨rfl, by rw [hU], by rw [hU]; exact hPc, GE.warm hW G, hDc.weaken (fun _ _ _ _ => trivial)⟩)⟩ rfl rfl hl.1 rfl (lv_room (Nat.le_of_ble_eq_true rfl)) dL_law_350 ⟨Nat.le_of_ble_eq_true rfl, Nat.le_of_ble_eq_true rfl⟩) hS (fun q _ h => hFc q h) hFc (fun q u t H1 locs ht hvm hw hB hz1 hk1 hS => ?_)
  obtain ⟨rfl, rfl⟩ := hw
  obtain ⟨hP1, -⟩ := hB
  rw [ht] at hP1
  have hP : va_P (dC, dI) vwCl (wAll cs g a B r350.2 P I1 T1 P1 I2 T2 P2 X R L K M) H1 := ((((((((((((((hP1.l).app (hP1.r)).app ((vP_keep hJ (hP.l.l.l.l.l.l.l.l.l.l.l.l.r) [12, 13] [0, 1, 2, 3, 4, 5, 6, 7, 8, 9, 10, 11] rfl hec (by decide) (by decide) hk1))).app ((vP_keep hJ (hP.l.l.l.l.l.l.l.l.l.l.l.r) [14] [0, 1, 2, 3, 4, 5, 6, 7, 8, 9, 10, 11] rfl hec (by decide) (by decide) hk1))).app ((vP_keep hJ (hP.l.l.l.l.l.l.l.l.l.l.r) [15, 16, 17, 18, 19, 20, 21, 22, 23, 24, 25] [0, 1, 2, 3, 4, 5, 6, 7, 8, 9, 10, 11] rfl hec (by decide) (by decide) hk1))).app ((vP_keep hJ (hP.l.l.l.l.l.l.l.l.l.r) [26, 27] [0, 1, 2, 3, 4, 5, 6, 7, 8, 9, 10, 11] rfl hec (by decide) (by decide) hk1))).app ((vP_keep hJ (hP.l.l.l.l.l.l.l.l.r) [28] [0, 1, 2, 3, 4, 5, 6, 7, 8, 9, 10, 11] rfl hec (by decide) (by decide) hk1))).app ((vP_keep hJ (hP.l.l.l.l.l.l.l.r) [29, 30, 31, 32, 33, 34, 35, 36, 37, 38, 39] [0, 1, 2, 3, 4, 5, 6, 7, 8, 9, 10, 11] rfl hec (by decide) (by decide) hk1))).app ((vP_keep hJ (hP.l.l.l.l.l.l.r) [40, 41] [0, 1, 2, 3, 4, 5, 6, 7, 8, 9, 10, 11] rfl hec (by decide) (by decide) hk1))).app ((vP_keep hJ (hP.l.l.l.l.l.r) [42, 43] [0, 1, 2, 3, 4, 5, 6, 7, 8, 9, 10, 11] rfl hec (by decide) (by decide) hk1))).app ((vP_keep hJ (hP.l.l.l.l.r) [44] [0, 1, 2, 3, 4, 5, 6, 7, 8, 9, 10, 11] rfl hec (by decide) (by decide) hk1))).app ((vP_keep hJ (hP.l.l.l.r) [45, 46, 47, 48, 49, 50, 51, 52, 53, 54, 55] [0, 1, 2, 3, 4, 5, 6, 7, 8, 9, 10, 11] rfl hec (by decide) (by decide) hk1))).app ((vP_keep hJ (hP.l.l.r) [56, 57, 58, 59] [0, 1, 2, 3, 4, 5, 6, 7, 8, 9, 10, 11] rfl hec (by decide) (by decide) hk1))).app ((vP_keep hJ (hP.l.r) [60, 61] [0, 1, 2, 3, 4, 5, 6, 7, 8, 9, 10, 11] rfl hec (by decide) (by decide) hk1))).app ((vP_keep hJ (hP.r) [62, 63, 64, 65, 66, 67, 68, 69, 70, 71, 72, 73] [0, 1, 2, 3, 4, 5, 6, 7, 8, 9, 10, 11] rfl hec (by decide) (by decide) hk1))
  generalize H1 = H at hP hS ⊢
  refine lv_aload_n hx hb dL_law_353 rfl (lv_at hl 2 rfl) ?_
  obtain ⟨r354, hr354, hf⟩ := bn_e hf
  have hPc : va_P (dC, dI) vwCl (wM cs a M) _ := hP.r
  have hec : ((wM cs a M)).map Prod.fst = ([62, 63, 64, 65, 66, 67, 68, 69, 70, 71, 72, 73] : List Nat).map (adr g a) := rfl
  have hDc := vD_adr hJ [62, 63, 64, 65, 66, 67, 68, 69, 70, 71, 72, 73] (by decide) (by decide) hec
  have hFc := vF_adr hDc hS hA
  refine va_calli (va_runV (As := []) (rest := [.int (r350.1)]) C (c_X8_none l dC dI cs a H.size M r354 hr354) (cwV 0 hts gL_law_X8_none rfl rfl rfl (by decide +kernel) ⟨Nat.le_of_ble_eq_true rfl, Nat.le_of_ble_eq_true rfl⟩) ⟨(fun a U g mk q => ⟨q.1, q.2.1, q.2.2.1, GE.calling q.2.2.2.1, q.2.2.2.2⟩), va_recv hK hPc (ci := 8) (q0 := 0) rfl rfl, (fun U hU hW => ⟨rfl, by rw [hU], by rw [hU]; exact hPc, GE.warm hW G, hDc.weaken (fun _ _ _ _ => trivial)⟩)⟩ rfl rfl hl.1 rfl (lv_room (Nat.le_of_ble_eq_true rfl)) dL_law_354 ⟨Nat.le_of_ble_eq_true rfl, Nat.le_of_ble_eq_true rfl⟩) hS (fun q _ h => hFc q h) hFc (fun q u t H1 locs ht hvm hw hB hz1 hk1 hS => ?_)
  obtain ⟨rfl, rfl⟩ := hw
  obtain ⟨hP1, -⟩ := hB
  rw [ht] at hP1
  have hP : va_P (dC, dI) vwCl (wAll cs g a B r350.2 P I1 T1 P1 I2 T2 P2 X R L K r354.2) H1 := (((((((((((((((vP_keep hJ (hP.l.l.l.l.l.l.l.l.l.l.l.l.l.l) [0] [62, 63, 64, 65, 66, 67, 68, 69, 70, 71, 72, 73] rfl hec (by decide) (by decide) hk1)).app ((vP_keep hJ (hP.l.l.l.l.l.l.l.l.l.l.l.l.l.r) [1, 2, 3, 4, 5, 6, 7, 8, 9, 10, 11] [62, 63, 64, 65, 66, 67, 68, 69, 70, 71, 72, 73] rfl hec (by decide) (by decide) hk1))).app ((vP_keep hJ (hP.l.l.l.l.l.l.l.l.l.l.l.l.r) [12, 13] [62, 63, 64, 65, 66, 67, 68, 69, 70, 71, 72, 73] rfl hec (by decide) (by decide) hk1))).app ((vP_keep hJ (hP.l.l.l.l.l.l.l.l.l.l.l.r) [14] [62, 63, 64, 65, 66, 67, 68, 69, 70, 71, 72, 73] rfl hec (by decide) (by decide) hk1))).app ((vP_keep hJ (hP.l.l.l.l.l.l.l.l.l.l.r) [15, 16, 17, 18, 19, 20, 21, 22, 23, 24, 25] [62, 63, 64, 65, 66, 67, 68, 69, 70, 71, 72, 73] rfl hec (by decide) (by decide) hk1))).app ((vP_keep hJ (hP.l.l.l.l.l.l.l.l.l.r) [26, 27] [62, 63, 64, 65, 66, 67, 68, 69, 70, 71, 72, 73] rfl hec (by decide) (by decide) hk1))).app ((vP_keep hJ (hP.l.l.l.l.l.l.l.l.r) [28] [62, 63, 64, 65, 66, 67, 68, 69, 70, 71, 72, 73] rfl hec (by decide) (by decide) hk1))).app ((vP_keep hJ (hP.l.l.l.l.l.l.l.r) [29, 30, 31, 32, 33, 34, 35, 36, 37, 38, 39] [62, 63, 64, 65, 66, 67, 68, 69, 70, 71, 72, 73] rfl hec (by decide) (by decide) hk1))).app ((vP_keep hJ (hP.l.l.l.l.l.l.r) [40, 41] [62, 63, 64, 65, 66, 67, 68, 69, 70, 71, 72, 73] rfl hec (by decide) (by decide) hk1))).app ((vP_keep hJ (hP.l.l.l.l.l.r) [42, 43] [62, 63, 64, 65, 66, 67, 68, 69, 70, 71, 72, 73] rfl hec (by decide) (by decide) hk1))).app ((vP_keep hJ (hP.l.l.l.l.r) [44] [62, 63, 64, 65, 66, 67, 68, 69, 70, 71, 72, 73] rfl hec (by decide) (by decide) hk1))).app ((vP_keep hJ (hP.l.l.l.r) [45, 46, 47, 48, 49, 50, 51, 52, 53, 54, 55] [62, 63, 64, 65, 66, 67, 68, 69, 70, 71, 72, 73] rfl hec (by decide) (by decide) hk1))).app ((vP_keep hJ (hP.l.l.r) [56, 57, 58, 59] [62, 63, 64, 65, 66, 67, 68, 69, 70, 71, 72, 73] rfl hec (by decide) (by decide) hk1))).app ((vP_keep hJ (hP.l.r) [60, 61] [62, 63, 64, 65, 66, 67, 68, 69, 70, 71, 72, 73] rfl hec (by decide) (by decide) hk1))).app (hP1)
  generalize H1 = H at hP hS ⊢
  refine lv_icmp_eq (tgt := 1128) hx hb dL_law_357 (by decide) (fun c1 => ?_) (fun c1 => ?_)
  · replace hf := it_t c1 hf
    exact b_L_law_1128 C G hX hbl hbA hE hJ hA hR x3 B r350.2 P I1 T1 P1 I2 T2 P2 X R L K r354.2 hK18 _ _ _ (lv_sub hl [0, 1, 2, 3] rfl) hP hS hf
  · replace hf := it_f c1 hf
    refine lv_iconst (v := 0) hx hb dL_law_360 (by decide) ?_
    exact hR _ _ _ _ _ dL_law_361 hf hS
def f_L_law_362 (Ls : Nat) (xs : Nat → Int32) (x3 : Int32) (B : Nat → Int32) (N : Tw) (P : Ps) (I1 : Int32) (T1 : Tw) (P1 : Ps) (I2 : Int32) (T2 : Tw) (P2 : Ps) (X : Tx) (R : Tw) (L : Wl) (K : Ch) (M : Ms) (K18 : Int32 → (Nat → Int32) → Tw → Ps → Int32 → Tw → Ps → Int32 → Tw → Ps → Tx → Tw → Wl → Ch → Ms → Option Int32) : Option Int32 :=
  gi ((x3 + (1 : Int32))) Ls <|
  bn (f_X7_type (xs ((x3 + (1 : Int32))).toNatClampNeg) B X) fun r368 =>
  gi ((x3 + (1 : Int32))) Ls <|
  bn (f_X8_type (xs ((x3 + (1 : Int32))).toNatClampNeg) M) fun r377 =>
  if r368.1 = r377.1 then (
    f_L_law_1128 Ls xs x3 r368.2.1 N P I1 T1 P1 I2 T2 P2 r368.2.2 R L K r377.2 K18
  ) else (
    some (0 : Int32)
  )
set_option maxHeartbeats 4000000 in
set_option maxRecDepth 100000 in
theorem b_L_law_362 {p : Program} {l : Launch} {e : Env} {s : State} {m : MethodId} {args : Array Value} {below : List Frame} {meth : Method} {c : Code} {Q : State → Prop} {dC : Nat → ClassId} {dI : Nat → Nat → Nat} {cs : Nat → ClassId} {A : Nat → Prop} {g : Nat → Nat} {adK : Nat → Nat} {adV : Nat → Nat} {b : Nat} {a : Nat → Nat} {Ls : Nat} {xs : Nat → Int32} {res : Int32} (C : CallFix p m c cL_law 4 s args wsL_law RL) (G : GE dC dI cs s) (hX : va_X b Ls xs s s.heap) (hbl : b < s.heap.size) (hbA : ¬ A b) (hE : SE adK adV A s s.heap) (hJ : adI A (adr g a) 74) (hA : ∀ q : Nat, s.heap.size ≤ q → A q) (hR : RTw p l e s m args below meth c Q A res) (x3 : Int32) (B : Nat → Int32) (N : Tw) (P : Ps) (I1 : Int32) (T1 : Tw) (P1 : Ps) (I2 : Int32) (T2 : Tw) (P2 : Ps) (X : Tx) (R : Tw) (L : Wl) (K : Ch) (M : Ms) {K18 : Int32 → (Nat → Int32) → Tw → Ps → Int32 → Tw → Ps → Int32 → Tw → Ps → Tx → Tw → Wl → Ch → Ms → Option Int32} (hK18 : ∀ (x3 : Int32) (B : Nat → Int32) (N : Tw) (P : Ps) (I1 : Int32) (T1 : Tw) (P1 : Ps) (I2 : Int32) (T2 : Tw) (P2 : Ps) (X : Tx) (R : Tw) (L : Wl) (K : Ch) (M : Ms) (H : Heap) (locs : List Loc) (ls : Array Slot), lv_has ls 4 [(0, .ref b), (1, .ref (g 0)), (2, .ref (a 0)), (3, .int (x3))] → va_P (dC, dI) vwCl (wAll cs g a B N P I1 T1 P1 I2 T2 P2 X R L K M) H → va_S A s.heap H locs → K18 x3 B N P I1 T1 P1 I2 T2 P2 X R L K M = some res → W p l e room_1 s m args below meth c H locs 74 3434 Q (F0 m 18 ls [])) (H : Heap) (locs : List Loc) (ls : Array Slot) (hl : lv_has ls 4 [(0, .ref b), (1, .ref (g 0)), (2, .ref (a 0)), (3, .int (x3))]) (hP : va_P (dC, dI) vwCl (wAll cs g a B N P I1 T1 P1 I2 T2 P2 X R L K M) H) (hS : va_S A s.heap H locs) (hf : f_L_law_362 Ls xs x3 B N P I1 T1 P1 I2 T2 P2 X R L K M K18 = some res) : W p l e room_1 s m args below meth c H locs 74 3434 Q (F0 m 362 ls []) := by
  obtain ⟨hx, hb, hml, hown, hts⟩ := id C
  obtain ⟨hK, hN⟩ := id G
  unfold f_L_law_362 at hf
  refine lv_aload_n hx hb dL_law_362 rfl (lv_at hl 1 rfl) ?_
  refine lv_aload_n hx hb dL_law_363 rfl (lv_at hl 0 rfl) ?_
  refine lv_iload_n hx hb dL_law_364 rfl (lv_at hl 3 rfl) ?_
  refine lv_iconst (v := 1) hx hb dL_law_365 (by decide) ?_
  refine lv_iadd hx hb dL_law_366 ?_
  obtain ⟨hi1, hf⟩ := gi_e hf
  refine va_sld hx hb hX hbl hbA hS hi1 dL_law_367 ?_
  obtain ⟨r368, hr368, hf⟩ := bn_e hf
  have hPc : va_P (dC, dI) vwCl (wB g B ++ wX cs (fun i => g (42 + i)) X) _ := (hP.l.l.l.l.l.l.l.l.l.l.l.l.l.l).app (hP.l.l.l.l.l.r)
  have hec : ((wB g B ++ wX cs (fun i => g (42 + i)) X)).map Prod.fst = ([0, 42, 43] : List Nat).map (adr g a) := rfl
  have hDc := vD_adr hJ [0, 42, 43] (by decide) (by decide) hec
  have hFc := vF_adr hDc hS hA
  refine va_calli (va_runV (As := [.int ((xs ((x3 + (1 : Int32))).toNatClampNeg))]) (rest := []) C (c_X7_type l dC dI cs g H.size B X (xs ((x3 + (1 : Int32))).toNatClampNeg) r368 hr368) (cwV 1 hts gL_law_X7_type rfl rfl rfl (by decide +kernel) ⟨Nat.le_of_ble_eq_true rfl, Nat.le_of_ble_eq_true rfl⟩) ⟨(fun a U g mk q => ⟨q.1, q.2.1, q.2.2.1, GE.calling q.2.2.2.1, q.2.2.2.2⟩), va_recv hK hPc (ci := 7) (q0 := 0) rfl rfl, (fun U hU hW => ⟨rfl, by rw [hU], by rw [hU]; exact hPc, GE.warm hW G, hDc.weaken (fun _ _ _ _ => trivial)⟩)⟩ rfl rfl hl.1 rfl (lv_room (Nat.le_of_ble_eq_true rfl)) dL_law_368 ⟨Nat.le_of_ble_eq_true rfl, Nat.le_of_ble_eq_true rfl⟩) hS (fun q _ h => hFc q h) hFc (fun q u t H1 locs ht hvm hw hB hz1 hk1 hS => ?_)
  obtain ⟨rfl, rfl⟩ := hw
  obtain ⟨hP1, -⟩ := hB
  rw [ht] at hP1
  have hP : va_P (dC, dI) vwCl (wAll cs g a r368.2.1 N P I1 T1 P1 I2 T2 P2 r368.2.2 R L K M) H1 := ((((((((((((((hP1.l).app ((vP_keep hJ (hP.l.l.l.l.l.l.l.l.l.l.l.l.l.r) [1, 2, 3, 4, 5, 6, 7, 8, 9, 10, 11] [0, 42, 43] rfl hec (by decide) (by decide) hk1))).app ((vP_keep hJ (hP.l.l.l.l.l.l.l.l.l.l.l.l.r) [12, 13] [0, 42, 43] rfl hec (by decide) (by decide) hk1))).app ((vP_keep hJ (hP.l.l.l.l.l.l.l.l.l.l.l.r) [14] [0, 42, 43] rfl hec (by decide) (by decide) hk1))).app ((vP_keep hJ (hP.l.l.l.l.l.l.l.l.l.l.r) [15, 16, 17, 18, 19, 20, 21, 22, 23, 24, 25] [0, 42, 43] rfl hec (by decide) (by decide) hk1))).app ((vP_keep hJ (hP.l.l.l.l.l.l.l.l.l.r) [26, 27] [0, 42, 43] rfl hec (by decide) (by decide) hk1))).app ((vP_keep hJ (hP.l.l.l.l.l.l.l.l.r) [28] [0, 42, 43] rfl hec (by decide) (by decide) hk1))).app ((vP_keep hJ (hP.l.l.l.l.l.l.l.r) [29, 30, 31, 32, 33, 34, 35, 36, 37, 38, 39] [0, 42, 43] rfl hec (by decide) (by decide) hk1))).app ((vP_keep hJ (hP.l.l.l.l.l.l.r) [40, 41] [0, 42, 43] rfl hec (by decide) (by decide) hk1))).app (hP1.r)).app ((vP_keep hJ (hP.l.l.l.l.r) [44] [0, 42, 43] rfl hec (by decide) (by decide) hk1))).app ((vP_keep hJ (hP.l.l.l.r) [45, 46, 47, 48, 49, 50, 51, 52, 53, 54, 55] [0, 42, 43] rfl hec (by decide) (by decide) hk1))).app ((vP_keep hJ (hP.l.l.r) [56, 57, 58, 59] [0, 42, 43] rfl hec (by decide) (by decide) hk1))).app ((vP_keep hJ (hP.l.r) [60, 61] [0, 42, 43] rfl hec (by decide) (by decide) hk1))).app ((vP_keep hJ (hP.r) [62, 63, 64, 65, 66, 67, 68, 69, 70, 71, 72, 73] [0, 42, 43] rfl hec (by decide) (by decide) hk1))
  generalize H1 = H at hP hS ⊢
  refine lv_aload_n hx hb dL_law_371 rfl (lv_at hl 2 rfl) ?_
  refine lv_aload_n hx hb dL_law_372 rfl (lv_at hl 0 rfl) ?_
  refine lv_iload_n hx hb dL_law_373 rfl (lv_at hl 3 rfl) ?_
  refine lv_iconst (v := 1) hx hb dL_law_374 (by decide) ?_
  refine lv_iadd hx hb dL_law_375 ?_
  obtain ⟨hi2, hf⟩ := gi_e hf
  refine va_sld hx hb hX hbl hbA hS hi2 dL_law_376 ?_
  obtain ⟨r377, hr377, hf⟩ := bn_e hf
  have hPc : va_P (dC, dI) vwCl (wM cs a M) _ := hP.r
  have hec : ((wM cs a M)).map Prod.fst = ([62, 63, 64, 65, 66, 67, 68, 69, 70, 71, 72, 73] : List Nat).map (adr g a) := rfl
  have hDc := vD_adr hJ [62, 63, 64, 65, 66, 67, 68, 69, 70, 71, 72, 73] (by decide) (by decide) hec
  have hFc := vF_adr hDc hS hA
  refine va_calli (va_runV (As := [.int ((xs ((x3 + (1 : Int32))).toNatClampNeg))]) (rest := [.int (r368.1)]) C (c_X8_type l dC dI cs a H.size M (xs ((x3 + (1 : Int32))).toNatClampNeg) r377 hr377) (cwV 1 hts gL_law_X8_type rfl rfl rfl (by decide +kernel) ⟨Nat.le_of_ble_eq_true rfl, Nat.le_of_ble_eq_true rfl⟩) ⟨(fun a U g mk q => ⟨q.1, q.2.1, q.2.2.1, GE.calling q.2.2.2.1, q.2.2.2.2⟩), va_recv hK hPc (ci := 8) (q0 := 0) rfl rfl, (fun U hU hW => ⟨rfl, by rw [hU], by rw [hU]; exact hPc, GE.warm hW G, hDc.weaken (fun _ _ _ _ => trivial)⟩)⟩ rfl rfl hl.1 rfl (lv_room (Nat.le_of_ble_eq_true rfl)) dL_law_377 ⟨Nat.le_of_ble_eq_true rfl, Nat.le_of_ble_eq_true rfl⟩) hS (fun q _ h => hFc q h) hFc (fun q u t H1 locs ht hvm hw hB hz1 hk1 hS => ?_)
  obtain ⟨rfl, rfl⟩ := hw
  obtain ⟨hP1, -⟩ := hB
  rw [ht] at hP1
  have hP : va_P (dC, dI) vwCl (wAll cs g a r368.2.1 N P I1 T1 P1 I2 T2 P2 r368.2.2 R L K r377.2) H1 := (((((((((((((((vP_keep hJ (hP.l.l.l.l.l.l.l.l.l.l.l.l.l.l) [0] [62, 63, 64, 65, 66, 67, 68, 69, 70, 71, 72, 73] rfl hec (by decide) (by decide) hk1)).app ((vP_keep hJ (hP.l.l.l.l.l.l.l.l.l.l.l.l.l.r) [1, 2, 3, 4, 5, 6, 7, 8, 9, 10, 11] [62, 63, 64, 65, 66, 67, 68, 69, 70, 71, 72, 73] rfl hec (by decide) (by decide) hk1))).app ((vP_keep hJ (hP.l.l.l.l.l.l.l.l.l.l.l.l.r) [12, 13] [62, 63, 64, 65, 66, 67, 68, 69, 70, 71, 72, 73] rfl hec (by decide) (by decide) hk1))).app ((vP_keep hJ (hP.l.l.l.l.l.l.l.l.l.l.l.r) [14] [62, 63, 64, 65, 66, 67, 68, 69, 70, 71, 72, 73] rfl hec (by decide) (by decide) hk1))).app ((vP_keep hJ (hP.l.l.l.l.l.l.l.l.l.l.r) [15, 16, 17, 18, 19, 20, 21, 22, 23, 24, 25] [62, 63, 64, 65, 66, 67, 68, 69, 70, 71, 72, 73] rfl hec (by decide) (by decide) hk1))).app ((vP_keep hJ (hP.l.l.l.l.l.l.l.l.l.r) [26, 27] [62, 63, 64, 65, 66, 67, 68, 69, 70, 71, 72, 73] rfl hec (by decide) (by decide) hk1))).app ((vP_keep hJ (hP.l.l.l.l.l.l.l.l.r) [28] [62, 63, 64, 65, 66, 67, 68, 69, 70, 71, 72, 73] rfl hec (by decide) (by decide) hk1))).app ((vP_keep hJ (hP.l.l.l.l.l.l.l.r) [29, 30, 31, 32, 33, 34, 35, 36, 37, 38, 39] [62, 63, 64, 65, 66, 67, 68, 69, 70, 71, 72, 73] rfl hec (by decide) (by decide) hk1))).app ((vP_keep hJ (hP.l.l.l.l.l.l.r) [40, 41] [62, 63, 64, 65, 66, 67, 68, 69, 70, 71, 72, 73] rfl hec (by decide) (by decide) hk1))).app ((vP_keep hJ (hP.l.l.l.l.l.r) [42, 43] [62, 63, 64, 65, 66, 67, 68, 69, 70, 71, 72, 73] rfl hec (by decide) (by decide) hk1))).app ((vP_keep hJ (hP.l.l.l.l.r) [44] [62, 63, 64, 65, 66, 67, 68, 69, 70, 71, 72, 73] rfl hec (by decide) (by decide) hk1))).app ((vP_keep hJ (hP.l.l.l.r) [45, 46, 47, 48, 49, 50, 51, 52, 53, 54, 55] [62, 63, 64, 65, 66, 67, 68, 69, 70, 71, 72, 73] rfl hec (by decide) (by decide) hk1))).app ((vP_keep hJ (hP.l.l.r) [56, 57, 58, 59] [62, 63, 64, 65, 66, 67, 68, 69, 70, 71, 72, 73] rfl hec (by decide) (by decide) hk1))).app ((vP_keep hJ (hP.l.r) [60, 61] [62, 63, 64, 65, 66, 67, 68, 69, 70, 71, 72, 73] rfl hec (by decide) (by decide) hk1))).app (hP1)
  generalize H1 = H at hP hS ⊢
  refine lv_icmp_eq (tgt := 1128) hx hb dL_law_380 (by decide) (fun c3 => ?_) (fun c3 => ?_)
  · replace hf := it_t c3 hf
    exact b_L_law_1128 C G hX hbl hbA hE hJ hA hR x3 r368.2.1 N P I1 T1 P1 I2 T2 P2 r368.2.2 R L K r377.2 hK18 _ _ _ (lv_sub hl [0, 1, 2, 3] rfl) hP hS hf
  · replace hf := it_f c3 hf
    refine lv_iconst (v := 0) hx hb dL_law_383 (by decide) ?_
    exact hR _ _ _ _ _ dL_law_384 hf hS
def f_L_law_385 (Ls : Nat) (xs : Nat → Int32) (x3 : Int32) (B : Nat → Int32) (N : Tw) (P : Ps) (I1 : Int32) (T1 : Tw) (P1 : Ps) (I2 : Int32) (T2 : Tw) (P2 : Ps) (X : Tx) (R : Tw) (L : Wl) (K : Ch) (M : Ms) (K18 : Int32 → (Nat → Int32) → Tw → Ps → Int32 → Tw → Ps → Int32 → Tw → Ps → Tx → Tw → Wl → Ch → Ms → Option Int32) : Option Int32 :=
  bn (f_X7_clear B X) fun r386 =>
  bn (f_X8_clear M) fun r390 =>
  if r386.1 = r390.1 then (
    f_L_law_1128 Ls xs x3 B N P I1 T1 P1 I2 T2 P2 r386.2 R L K r390.2 K18
  ) else (
    some (0 : Int32)
  )
set_option maxHeartbeats 4000000 in
set_option maxRecDepth 100000 in
theorem b_L_law_385 {p : Program} {l : Launch} {e : Env} {s : State} {m : MethodId} {args : Array Value} {below : List Frame} {meth : Method} {c : Code} {Q : State → Prop} {dC : Nat → ClassId} {dI : Nat → Nat → Nat} {cs : Nat → ClassId} {A : Nat → Prop} {g : Nat → Nat} {adK : Nat → Nat} {adV : Nat → Nat} {b : Nat} {a : Nat → Nat} {Ls : Nat} {xs : Nat → Int32} {res : Int32} (C : CallFix p m c cL_law 4 s args wsL_law RL) (G : GE dC dI cs s) (hX : va_X b Ls xs s s.heap) (hbl : b < s.heap.size) (hbA : ¬ A b) (hE : SE adK adV A s s.heap) (hJ : adI A (adr g a) 74) (hA : ∀ q : Nat, s.heap.size ≤ q → A q) (hR : RTw p l e s m args below meth c Q A res) (x3 : Int32) (B : Nat → Int32) (N : Tw) (P : Ps) (I1 : Int32) (T1 : Tw) (P1 : Ps) (I2 : Int32) (T2 : Tw) (P2 : Ps) (X : Tx) (R : Tw) (L : Wl) (K : Ch) (M : Ms) {K18 : Int32 → (Nat → Int32) → Tw → Ps → Int32 → Tw → Ps → Int32 → Tw → Ps → Tx → Tw → Wl → Ch → Ms → Option Int32} (hK18 : ∀ (x3 : Int32) (B : Nat → Int32) (N : Tw) (P : Ps) (I1 : Int32) (T1 : Tw) (P1 : Ps) (I2 : Int32) (T2 : Tw) (P2 : Ps) (X : Tx) (R : Tw) (L : Wl) (K : Ch) (M : Ms) (H : Heap) (locs : List Loc) (ls : Array Slot), lv_has ls 4 [(0, .ref b), (1, .ref (g 0)), (2, .ref (a 0)), (3, .int (x3))] → va_P (dC, dI) vwCl (wAll cs g a B N P I1 T1 P1 I2 T2 P2 X R L K M) H → va_S A s.heap H locs → K18 x3 B N P I1 T1 P1 I2 T2 P2 X R L K M = some res → W p l e room_1 s m args below meth c H locs 74 3434 Q (F0 m 18 ls [])) (H : Heap) (locs : List Loc) (ls : Array Slot) (hl : lv_has ls 4 [(0, .ref b), (1, .ref (g 0)), (2, .ref (a 0)), (3, .int (x3))]) (hP : va_P (dC, dI) vwCl (wAll cs g a B N P I1 T1 P1 I2 T2 P2 X R L K M) H) (hS : va_S A s.heap H locs) (hf : f_L_law_385 Ls xs x3 B N P I1 T1 P1 I2 T2 P2 X R L K M K18 = some res) : W p l e room_1 s m args below meth c H locs 74 3434 Q (F0 m 385 ls []) := by
  obtain ⟨hx, hb, hml, hown, hts⟩ := id C
  obtain ⟨hK, hN⟩ := id G
  unfold f_L_law_385 at hf
  refine lv_aload_n hx hb dL_law_385 rfl (lv_at hl 1 rfl) ?_
  obtain ⟨r386, hr386, hf⟩ := bn_e hf
  have hPc : va_P (dC, dI) vwCl (wB g B ++ wX cs (fun i => g (42 + i)) X) _ := (hP.l.l.l.l.l.l.l.l.l.l.l.l.l.l).app (hP.l.l.l.l.l.r)
  have hec : ((wB g B ++ wX cs (fun i => g (42 + i)) X)).map Prod.fst = ([0, 42, 43] : List Nat).map (adr g a) := rfl
  have hDc := vD_adr hJ [0, 42, 43] (by decide) (by decide) hec
  have hFc := vF_adr hDc hS hA
  refine va_calli (va_runV (As := []) (rest := []) C (c_X7_clear l dC dI cs g H.size B X r386 hr386) (cwV 0 hts gL_law_X7_clear rfl rfl rfl (by decide +kernel) ⟨Nat.le_of_ble_eq_true rfl, Nat.le_of_ble_eq_true rfl⟩) ⟨(fun a U g mk q => ⟨q.1, q.2.1, q.2.2.1, GE.calling q.2.2.2.1, q.2.2.2.2⟩), va_recv hK hPc (ci := 7) (q0 := 0) rfl rfl, (fun U hU hW => ⟨rfl, by rw [hU], by rw [hU]; exact hPc, GE.warm hW G, hDc.weaken (fun _ _ _ _ => trivial)⟩)⟩ rfl rfl hl.1 rfl (lv_room (Nat.le_of_ble_eq_true rfl)) dL_law_386 ⟨Nat.le_of_ble_eq_true rfl, Nat.le_of_ble_eq_true rfl⟩) hS (fun q _ h => hFc q h) hFc (fun q u t H1 locs ht hvm hw hB hz1 hk1 hS => ?_)
  obtain ⟨rfl, rfl⟩ := hw
  obtain ⟨hP1, -⟩ := hB
  rw [ht] at hP1
  have hP : va_P (dC, dI) vwCl (wAll cs g a B N P I1 T1 P1 I2 T2 P2 r386.2 R L K M) H1 := ((((((((((((((hP1.l).app ((vP_keep hJ (hP.l.l.l.l.l.l.l.l.l.l.l.l.l.r) [1, 2, 3, 4, 5, 6, 7, 8, 9, 10, 11] [0, 42, 43] rfl hec (by decide) (by decide) hk1))).app ((vP_keep hJ (hP.l.l.l.l.l.l.l.l.l.l.l.l.r) [12, 13] [0, 42, 43] rfl hec (by decide) (by decide) hk1))).app ((vP_keep hJ (hP.l.l.l.l.l.l.l.l.l.l.l.r) [14] [0, 42, 43] rfl hec (by decide) (by decide) hk1))).app ((vP_keep hJ (hP.l.l.l.l.l.l.l.l.l.l.r) [15, 16, 17, 18, 19, 20, 21, 22, 23, 24, 25] [0, 42, 43] rfl hec (by decide) (by decide) hk1))).app ((vP_keep hJ (hP.l.l.l.l.l.l.l.l.l.r) [26, 27] [0, 42, 43] rfl hec (by decide) (by decide) hk1))).app ((vP_keep hJ (hP.l.l.l.l.l.l.l.l.r) [28] [0, 42, 43] rfl hec (by decide) (by decide) hk1))).app ((vP_keep hJ (hP.l.l.l.l.l.l.l.r) [29, 30, 31, 32, 33, 34, 35, 36, 37, 38, 39] [0, 42, 43] rfl hec (by decide) (by decide) hk1))).app ((vP_keep hJ (hP.l.l.l.l.l.l.r) [40, 41] [0, 42, 43] rfl hec (by decide) (by decide) hk1))).app (hP1.r)).app ((vP_keep hJ (hP.l.l.l.l.r) [44] [0, 42, 43] rfl hec (by decide) (by decide) hk1))).app ((vP_keep hJ (hP.l.l.l.r) [45, 46, 47, 48, 49, 50, 51, 52, 53, 54, 55] [0, 42, 43] rfl hec (by decide) (by decide) hk1))).app ((vP_keep hJ (hP.l.l.r) [56, 57, 58, 59] [0, 42, 43] rfl hec (by decide) (by decide) hk1))).app ((vP_keep hJ (hP.l.r) [60, 61] [0, 42, 43] rfl hec (by decide) (by decide) hk1))).app ((vP_keep hJ (hP.r) [62, 63, 64, 65, 66, 67, 68, 69, 70, 71, 72, 73] [0, 42, 43] rfl hec (by decide) (by decide) hk1))
  generalize H1 = H at hP hS ⊢
  refine lv_aload_n hx hb dL_law_389 rfl (lv_at hl 2 rfl) ?_
  obtain ⟨r390, hr390, hf⟩ := bn_e hf
  have hPc : va_P (dC, dI) vwCl (wM cs a M) _ := hP.r
  have hec : ((wM cs a M)).map Prod.fst = ([62, 63, 64, 65, 66, 67, 68, 69, 70, 71, 72, 73] : List Nat).map (adr g a) := rfl
  have hDc := vD_adr hJ [62, 63, 64, 65, 66, 67, 68, 69, 70, 71, 72, 73] (by decide) (by decide) hec
  have hFc := vF_adr hDc hS hA
  refine va_calli (va_runV (As := []) (rest := [.int (r386.1)]) C (c_X8_clear l dC dI cs a H.size M r390 hr390) (cwV 0 hts gL_law_X8_clear rfl rfl rfl (by decide +kernel) ⟨Nat.le_of_ble_eq_true rfl, Nat.le_of_ble_eq_true rfl⟩) ⟨(fun a U g mk q => ⟨q.1, q.2.1, q.2.2.1, GE.calling q.2.2.2.1, q.2.2.2.2⟩), va_recv hK hPc (ci := 8) (q0 := 0) rfl rfl, (fun U hU hW => ⟨rfl, by rw [hU], by rw [hU]; exact hPc, GE.warm hW G, hDc.weaken (fun _ _ _ _ => trivial)⟩)⟩ rfl rfl hl.1 rfl (lv_room (Nat.le_of_ble_eq_true rfl)) dL_law_390 ⟨Nat.le_of_ble_eq_true rfl, Nat.le_of_ble_eq_true rfl⟩) hS (fun q _ h => hFc q h) hFc (fun q u t H1 locs ht hvm hw hB hz1 hk1 hS => ?_)
  obtain ⟨rfl, rfl⟩ := hw
  obtain ⟨hP1, -⟩ := hB
  rw [ht] at hP1
  have hP : va_P (dC, dI) vwCl (wAll cs g a B N P I1 T1 P1 I2 T2 P2 r386.2 R L K r390.2) H1 := (((((((((((((((vP_keep hJ (hP.l.l.l.l.l.l.l.l.l.l.l.l.l.l) [0] [62, 63, 64, 65, 66, 67, 68, 69, 70, 71, 72, 73] rfl hec (by decide) (by decide) hk1)).app ((vP_keep hJ (hP.l.l.l.l.l.l.l.l.l.l.l.l.l.r) [1, 2, 3, 4, 5, 6, 7, 8, 9, 10, 11] [62, 63, 64, 65, 66, 67, 68, 69, 70, 71, 72, 73] rfl hec (by decide) (by decide) hk1))).app ((vP_keep hJ (hP.l.l.l.l.l.l.l.l.l.l.l.l.r) [12, 13] [62, 63, 64, 65, 66, 67, 68, 69, 70, 71, 72, 73] rfl hec (by decide) (by decide) hk1))).app ((vP_keep hJ (hP.l.l.l.l.l.l.l.l.l.l.l.r) [14] [62, 63, 64, 65, 66, 67, 68, 69, 70, 71, 72, 73] rfl hec (by decide) (by decide) hk1))).app ((vP_keep hJ (hP.l.l.l.l.l.l.l.l.l.l.r) [15, 16, 17, 18, 19, 20, 21, 22, 23, 24, 25] [62, 63, 64, 65, 66, 67, 68, 69, 70, 71, 72, 73] rfl hec (by decide) (by decide) hk1))).app ((vP_keep hJ (hP.l.l.l.l.l.l.l.l.l.r) [26, 27] [62, 63, 64, 65, 66, 67, 68, 69, 70, 71, 72, 73] rfl hec (by decide) (by decide) hk1))).app ((vP_keep hJ (hP.l.l.l.l.l.l.l.l.r) [28] [62, 63, 64, 65, 66, 67, 68, 69, 70, 71, 72, 73] rfl hec (by decide) (by decide) hk1))).app ((vP_keep hJ (hP.l.l.l.l.l.l.l.r) [29, 30, 31, 32, 33, 34, 35, 36, 37, 38, 39] [62, 63, 64, 65, 66, 67, 68, 69, 70, 71, 72, 73] rfl hec (by decide) (by decide) hk1))).app ((vP_keep hJ (hP.l.l.l.l.l.l.r) [40, 41] [62, 63, 64, 65, 66, 67, 68, 69, 70, 71, 72, 73] rfl hec (by decide) (by decide) hk1))).app ((vP_keep hJ (hP.l.l.l.l.l.r) [42, 43] [62, 63, 64, 65, 66, 67, 68, 69, 70, 71, 72, 73] rfl hec (by decide) (by decide) hk1))).app ((vP_keep hJ (hP.l.l.l.l.r) [44] [62, 63, 64, 65, 66, 67, 68, 69, 70, 71, 72, 73] rfl hec (by decide) (by decide) hk1))).app ((vP_keep hJ (hP.l.l.l.r) [45, 46, 47, 48, 49, 50, 51, 52, 53, 54, 55] [62, 63, 64, 65, 66, 67, 68, 69, 70, 71, 72, 73] rfl hec (by decide) (by decide) hk1))).app ((vP_keep hJ (hP.l.l.r) [56, 57, 58, 59] [62, 63, 64, 65, 66, 67, 68, 69, 70, 71, 72, 73] rfl hec (by decide) (by decide) hk1))).app ((vP_keep hJ (hP.l.r) [60, 61] [62, 63, 64, 65, 66, 67, 68, 69, 70, 71, 72, 73] rfl hec (by decide) (by decide) hk1))).app (hP1)
  generalize H1 = H at hP hS ⊢
  refine lv_icmp_eq (tgt := 1128) hx hb dL_law_393 (by decide) (fun c1 => ?_) (fun c1 => ?_)
  · replace hf := it_t c1 hf
    exact b_L_law_1128 C G hX hbl hbA hE hJ hA hR x3 B N P I1 T1 P1 I2 T2 P2 r386.2 R L K r390.2 hK18 _ _ _ (lv_sub hl [0, 1, 2, 3] rfl) hP hS hf
  · replace hf := it_f c1 hf
    refine lv_iconst (v := 0) hx hb dL_law_396 (by decide) ?_
    exact hR _ _ _ _ _ dL_law_397 hf hS
def f_L_law_398 (Ls : Nat) (xs : Nat → Int32) (x3 : Int32) (B : Nat → Int32) (N : Tw) (P : Ps) (I1 : Int32) (T1 : Tw) (P1 : Ps) (I2 : Int32) (T2 : Tw) (P2 : Ps) (X : Tx) (R : Tw) (L : Wl) (K : Ch) (M : Ms) (K18 : Int32 → (Nat → Int32) → Tw → Ps → Int32 → Tw → Ps → Int32 → Tw → Ps → Tx → Tw → Wl → Ch → Ms → Option Int32) : Option Int32 :=
  bn (f_X7_read B N P X R) fun r399 =>
  bn (f_X8_read M) fun r403 =>
  if r399.1 = r403.1 then (
    f_L_law_1128 Ls xs x3 B r399.2.1 r399.2.2.1 I1 T1 P1 I2 T2 P2 r399.2.2.2.1 r399.2.2.2.2 L K r403.2 K18
  ) else (
    some (0 : Int32)
  )
set_option maxHeartbeats 4000000 in
set_option maxRecDepth 100000 in
theorem b_L_law_398 {p : Program} {l : Launch} {e : Env} {s : State} {m : MethodId} {args : Array Value} {below : List Frame} {meth : Method} {c : Code} {Q : State → Prop} {dC : Nat → ClassId} {dI : Nat → Nat → Nat} {cs : Nat → ClassId} {A : Nat → Prop} {g : Nat → Nat} {adK : Nat → Nat} {adV : Nat → Nat} {b : Nat} {a : Nat → Nat} {Ls : Nat} {xs : Nat → Int32} {res : Int32} (C : CallFix p m c cL_law 4 s args wsL_law RL) (G : GE dC dI cs s) (hX : va_X b Ls xs s s.heap) (hbl : b < s.heap.size) (hbA : ¬ A b) (hE : SE adK adV A s s.heap) (hJ : adI A (adr g a) 74) (hA : ∀ q : Nat, s.heap.size ≤ q → A q) (hR : RTw p l e s m args below meth c Q A res) (x3 : Int32) (B : Nat → Int32) (N : Tw) (P : Ps) (I1 : Int32) (T1 : Tw) (P1 : Ps) (I2 : Int32) (T2 : Tw) (P2 : Ps) (X : Tx) (R : Tw) (L : Wl) (K : Ch) (M : Ms) {K18 : Int32 → (Nat → Int32) → Tw → Ps → Int32 → Tw → Ps → Int32 → Tw → Ps → Tx → Tw → Wl → Ch → Ms → Option Int32} (hK18 : ∀ (x3 : Int32) (B : Nat → Int32) (N : Tw) (P : Ps) (I1 : Int32) (T1 : Tw) (P1 : Ps) (I2 : Int32) (T2 : Tw) (P2 : Ps) (X : Tx) (R : Tw) (L : Wl) (K : Ch) (M : Ms) (H : Heap) (locs : List Loc) (ls : Array Slot), lv_has ls 4 [(0, .ref b), (1, .ref (g 0)), (2, .ref (a 0)), (3, .int (x3))] → va_P (dC, dI) vwCl (wAll cs g a B N P I1 T1 P1 I2 T2 P2 X R L K M) H → va_S A s.heap H locs → K18 x3 B N P I1 T1 P1 I2 T2 P2 X R L K M = some res → W p l e room_1 s m args below meth c H locs 74 3434 Q (F0 m 18 ls [])) (H : Heap) (locs : List Loc) (ls : Array Slot) (hl : lv_has ls 4 [(0, .ref b), (1, .ref (g 0)), (2, .ref (a 0)), (3, .int (x3))]) (hP : va_P (dC, dI) vwCl (wAll cs g a B N P I1 T1 P1 I2 T2 P2 X R L K M) H) (hS : va_S A s.heap H locs) (hf : f_L_law_398 Ls xs x3 B N P I1 T1 P1 I2 T2 P2 X R L K M K18 = some res) : W p l e room_1 s m args below meth c H locs 74 3434 Q (F0 m 398 ls []) := by
  obtain ⟨hx, hb, hml, hown, hts⟩ := id C
  obtain ⟨hK, hN⟩ := id G
  unfold f_L_law_398 at hf
  refine lv_aload_n hx hb dL_law_398 rfl (lv_at hl 1 rfl) ?_
  obtain ⟨r399, hr399, hf⟩ := bn_e hf
  have hPc : va_P (dC, dI) vwCl (wB g B ++ wT cs (fun i => g (1 + i)) N ++ wP cs (fun i => g (12 + i)) P ++ wX cs (fun i => g (42 + i)) X ++ wF (g 44) (g 45) ++ wT cs (fun i => g (45 + i)) R) _ := (((((hP.l.l.l.l.l.l.l.l.l.l.l.l.l.l).app (hP.l.l.l.l.l.l.l.l.l.l.l.l.l.r)).app (hP.l.l.l.l.l.l.l.l.l.l.l.l.r)).app (hP.l.l.l.l.l.r)).app (hP.l.l.l.l.r)).app (hP.l.l.l.r)
  have hec : ((wB g B ++ wT cs (fun i => g (1 + i)) N ++ wP cs (fun i => g (12 + i)) P ++ wX cs (fun i => g (42 + i)) X ++ wF (g 44) (g 45) ++ wT cs (fun i => g (45 + i)) R)).map Prod.fst = ([0, 1, 2, 3, 4, 5, 6, 7, 8, 9, 10, 11, 12, 13, 42, 43, 44, 45, 46, 47, 48, 49, 50, 51, 52, 53, 54, 55] : List Nat).map (adr g a) := rfl
  have hDc := vD_adr hJ [0, 1, 2, 3, 4, 5, 6, 7, 8, 9, 10, 11, 12, 13, 42, 43, 44, 45, 46, 47, 48, 49, 50, 51, 52, 53, 54, 55] (by decide) (by decide) hec
  have hFc := vF_adr hDc hS hA
  refine va_calli (va_runV (As := []) (rest := []) C (c_X7_read l dC dI cs g adK adV H.size B N P X R r399 hr399) (cwV 0 hts gL_law_X7_read rfl rfl rfl (by decide +kernel) ⟨Nat.le_of_ble_eq_true rfl, Nat.le_of_ble_eq_true rfl⟩) ⟨(fun a U g mk q => ⟨q.1, q.2.1, q.2.2.1, GE.calling q.2.2.2.1, q.2.2.2.2.1, SE.calling q.2.2.2.2.2⟩), va_recv hK hPc (ci := 7) (q0 := 0) rfl rfl, (fun U hU hW => ⟨rfl, by rw [hU], by rw [hU]; exact hPc, GE.warm hW G, hDc.weaken (fun _ _ _ _ => trivial), by rw [hU]; exact SE.warm hW ((hE.kept hS.2.1).narrow hFc)⟩)⟩ rfl rfl hl.1 rfl (lv_room (Nat.le_of_ble_eq_true rfl)) dL_law_399 ⟨Nat.le_of_ble_eq_true rfl, Nat.le_of_ble_eq_true rfl⟩) hS (fun q _ h => hFc q h) hFc (fun q u t H1 locs ht hvm hw hB hz1 hk1 hS => ?_)
  obtain ⟨rfl, rfl⟩ := hw
  obtain ⟨hP1, -⟩ := hB
  rw [ht] at hP1
  have hP : va_P (dC, dI) vwCl (wAll cs g a B r399.2.1 r399.2.2.1 I1 T1 P1 I2 T2 P2 r399.2.2.2.1 r399.2.2.2.2 L K M) H1 := ((((((((((((((hP1.l.l.l.l.l).app (hP1.l.l.l.l.r)).app (hP1.l.l.l.r)).app ((vP_keep hJ (hP.l.l.l.l.l.l.l.l.l.l.l.r) [14] [0, 1, 2, 3, 4, 5, 6, 7, 8, 9, 10, 11, 12, 13, 42, 43, 44, 45, 46, 47, 48, 49, 50, 51, 52, 53, 54, 55] rfl hec (by decide) (by decide) hk1))).app ((vP_keep hJ (hP.l.l.l.l.l.l.l.l.l.l.r) [15, 16, 17, 18, 19, 20, 21, 22, 23, 24, 25] [0, 1, 2, 3, 4, 5, 6, 7, 8, 9, 10, 11, 12, 13, 42, 43, 44, 45, 46, 47, 48, 49, 50, 51, 52, 53, 54, 55] rfl hec (by decide) (by decide) hk1))).app ((vP_keep hJ (hP.l.l.l.l.l.l.l.l.l.r) [26, 27] [0, 1, 2, 3, 4, 5, 6, 7, 8, 9, 10, 11, 12, 13, 42, 43, 44, 45, 46, 47, 48, 49, 50, 51, 52, 53, 54, 55] rfl hec (by decide) (by decide) hk1))).app ((vP_keep hJ (hP.l.l.l.l.l.l.l.l.r) [28] [0, 1, 2, 3, 4, 5, 6, 7, 8, 9, 10, 11, 12, 13, 42, 43, 44, 45, 46, 47, 48, 49, 50, 51, 52, 53, 54, 55] rfl hec (by decide) (by decide) hk1))).app ((vP_keep hJ (hP.l.l.l.l.l.l.l.r) [29, 30, 31, 32, 33, 34, 35, 36, 37, 38, 39] [0, 1, 2, 3, 4, 5, 6, 7, 8, 9, 10, 11, 12, 13, 42, 43, 44, 45, 46, 47, 48, 49, 50, 51, 52, 53, 54, 55] rfl hec (by decide) (by decide) hk1))).app ((vP_keep hJ (hP.l.l.l.l.l.l.r) [40, 41] [0, 1, 2, 3, 4, 5, 6, 7, 8, 9, 10, 11, 12, 13, 42, 43, 44, 45, 46, 47, 48, 49, 50, 51, 52, 53, 54, 55] rfl hec (by decide) (by decide) hk1))).app (hP1.l.l.r)).app (hP1.l.r)).app (hP1.r)).app ((vP_keep hJ (hP.l.l.r) [56, 57, 58, 59] [0, 1, 2, 3, 4, 5, 6, 7, 8, 9, 10, 11, 12, 13, 42, 43, 44, 45, 46, 47, 48, 49, 50, 51, 52, 53, 54, 55] rfl hec (by decide) (by decide) hk1))).app ((vP_keep hJ (hP.l.r) [60, 61] [0, 1, 2, 3, 4, 5, 6, 7, 8, 9, 10, 11, 12, 13, 42, 43, 44, 45, 46, 47, 48, 49, 50, 51, 52, 53, 54, 55] rfl hec (by decide) (by decide) hk1))).app ((vP_keep hJ (hP.r) [62, 63, 64, 65, 66, 67, 68, 69, 70, 71, 72, 73] [0, 1, 2, 3, 4, 5, 6, 7, 8, 9, 10, 11, 12, 13, 42, 43, 44, 45, 46, 47, 48, 49, 50, 51, 52, 53, 54, 55] rfl hec (by decide) (by decide) hk1))
  generalize H1 = H at hP hS ⊢
  refine lv_aload_n hx hb dL_law_402 rfl (lv_at hl 2 rfl) ?_
  obtain ⟨r403, hr403, hf⟩ := bn_e hf
  have hPc : va_P (dC, dI) vwCl (wM cs a M) _ := hP.r
  have hec : ((wM cs a M)).map Prod.fst = ([62, 63, 64, 65, 66, 67, 68, 69, 70, 71, 72, 73] : List Nat).map (adr g a) := rfl
  have hDc := vD_adr hJ [62, 63, 64, 65, 66, 67, 68, 69, 70, 71, 72, 73] (by decide) (by decide) hec
  have hFc := vF_adr hDc hS hA
  refine va_calli (va_runV (As := []) (rest := [.int (r399.1)]) C (c_X8_read l dC dI cs a H.size M r403 hr403) (cwV 0 hts gL_law_X8_read rfl rfl rfl (by decide +kernel) ⟨Nat.le_of_ble_eq_true rfl, Nat.le_of_ble_eq_true rfl⟩) ⟨(fun a U g mk q => ⟨q.1, q.2.1, q.2.2.1, GE.calling q.2.2.2.1, q.2.2.2.2⟩), va_recv hK hPc (ci := 8) (q0 := 0) rfl rfl, (fun U hU hW => ⟨rfl, by rw [hU], by rw [hU]; exact hPc, GE.warm hW G, hDc.weaken (fun _ _ _ _ => trivial)⟩)⟩ rfl rfl hl.1 rfl (lv_room (Nat.le_of_ble_eq_true rfl)) dL_law_403 ⟨Nat.le_of_ble_eq_true rfl, Nat.le_of_ble_eq_true rfl⟩) hS (fun q _ h => hFc q h) hFc (fun q u t H1 locs ht hvm hw hB hz1 hk1 hS => ?_)
  obtain ⟨rfl, rfl⟩ := hw
  obtain ⟨hP1, -⟩ := hB
  rw [ht] at hP1
  have hP : va_P (dC, dI) vwCl (wAll cs g a B r399.2.1 r399.2.2.1 I1 T1 P1 I2 T2 P2 r399.2.2.2.1 r399.2.2.2.2 L K r403.2) H1 := (((((((((((((((vP_keep hJ (hP.l.l.l.l.l.l.l.l.l.l.l.l.l.l) [0] [62, 63, 64, 65, 66, 67, 68, 69, 70, 71, 72, 73] rfl hec (by decide) (by decide) hk1)).app ((vP_keep hJ (hP.l.l.l.l.l.l.l.l.l.l.l.l.l.r) [1, 2, 3, 4, 5, 6, 7, 8, 9, 10, 11] [62, 63, 64, 65, 66, 67, 68, 69, 70, 71, 72, 73] rfl hec (by decide) (by decide) hk1))).app ((vP_keep hJ (hP.l.l.l.l.l.l.l.l.l.l.l.l.r) [12, 13] [62, 63, 64, 65, 66, 67, 68, 69, 70, 71, 72, 73] rfl hec (by decide) (by decide) hk1))).app ((vP_keep hJ (hP.l.l.l.l.l.l.l.l.l.l.l.r) [14] [62, 63, 64, 65, 66, 67, 68, 69, 70, 71, 72, 73] rfl hec (by decide) (by decide) hk1))).app ((vP_keep hJ (hP.l.l.l.l.l.l.l.l.l.l.r) [15, 16, 17, 18, 19, 20, 21, 22, 23, 24, 25] [62, 63, 64, 65, 66, 67, 68, 69, 70, 71, 72, 73] rfl hec (by decide) (by decide) hk1))).app ((vP_keep hJ (hP.l.l.l.l.l.l.l.l.l.r) [26, 27] [62, 63, 64, 65, 66, 67, 68, 69, 70, 71, 72, 73] rfl hec (by decide) (by decide) hk1))).app ((vP_keep hJ (hP.l.l.l.l.l.l.l.l.r) [28] [62, 63, 64, 65, 66, 67, 68, 69, 70, 71, 72, 73] rfl hec (by decide) (by decide) hk1))).app ((vP_keep hJ (hP.l.l.l.l.l.l.l.r) [29, 30, 31, 32, 33, 34, 35, 36, 37, 38, 39] [62, 63, 64, 65, 66, 67, 68, 69, 70, 71, 72, 73] rfl hec (by decide) (by decide) hk1))).app ((vP_keep hJ (hP.l.l.l.l.l.l.r) [40, 41] [62, 63, 64, 65, 66, 67, 68, 69, 70, 71, 72, 73] rfl hec (by decide) (by decide) hk1))).app ((vP_keep hJ (hP.l.l.l.l.l.r) [42, 43] [62, 63, 64, 65, 66, 67, 68, 69, 70, 71, 72, 73] rfl hec (by decide) (by decide) hk1))).app ((vP_keep hJ (hP.l.l.l.l.r) [44] [62, 63, 64, 65, 66, 67, 68, 69, 70, 71, 72, 73] rfl hec (by decide) (by decide) hk1))).app ((vP_keep hJ (hP.l.l.l.r) [45, 46, 47, 48, 49, 50, 51, 52, 53, 54, 55] [62, 63, 64, 65, 66, 67, 68, 69, 70, 71, 72, 73] rfl hec (by decide) (by decide) hk1))).app ((vP_keep hJ (hP.l.l.r) [56, 57, 58, 59] [62, 63, 64, 65, 66, 67, 68, 69, 70, 71, 72, 73] rfl hec (by decide) (by decide) hk1))).app ((vP_keep hJ (hP.l.r) [60, 61] [62, 63, 64, 65, 66, 67, 68, 69, 70, 71, 72, 73] rfl hec (by decide) (by decide) hk1))).app (hP1)
  generalize H1 = H at hP hS ⊢
  refine lv_icmp_eq (tgt := 1128) hx hb dL_law_406 (by decide) (fun c1 => ?_) (fun c1 => ?_)
  · replace hf := it_t c1 hf
    exact b_L_law_1128 C G hX hbl hbA hE hJ hA hR x3 B r399.2.1 r399.2.2.1 I1 T1 P1 I2 T2 P2 r399.2.2.2.1 r399.2.2.2.2 L K r403.2 hK18 _ _ _ (lv_sub hl [0, 1, 2, 3] rfl) hP hS hf
  · replace hf := it_f c1 hf
    refine lv_iconst (v := 0) hx hb dL_law_409 (by decide) ?_
    exact hR _ _ _ _ _ dL_law_410 hf hS
def f_L_law_411 (Ls : Nat) (xs : Nat → Int32) (x3 : Int32) (B : Nat → Int32) (N : Tw) (P : Ps) (I1 : Int32) (T1 : Tw) (P1 : Ps) (I2 : Int32) (T2 : Tw) (P2 : Ps) (X : Tx) (R : Tw) (L : Wl) (K : Ch) (M : Ms) (K18 : Int32 → (Nat → Int32) → Tw → Ps → Int32 → Tw → Ps → Int32 → Tw → Ps → Tx → Tw → Wl → Ch → Ms → Option Int32) : Option Int32 :=
  gi ((x3 + (1 : Int32))) Ls <|
  bn (f_X7_pass (xs ((x3 + (1 : Int32))).toNatClampNeg) B N P) fun r417 =>
  gi ((x3 + (1 : Int32))) Ls <|
  bn (f_X8_pass (xs ((x3 + (1 : Int32))).toNatClampNeg) M) fun r426 =>
  if r417.1 = r426.1 then (
    f_L_law_1128 Ls xs x3 r417.2.1 r417.2.2.1 r417.2.2.2 I1 T1 P1 I2 T2 P2 X R L K r426.2 K18
  ) else (
    some (0 : Int32)
  )
set_option maxHeartbeats 4000000 in
set_option maxRecDepth 100000 in
theorem b_L_law_411 {p : Program} {l : Launch} {e : Env} {s : State} {m : MethodId} {args : Array Value} {below : List Frame} {meth : Method} {c : Code} {Q : State → Prop} {dC : Nat → ClassId} {dI : Nat → Nat → Nat} {cs : Nat → ClassId} {A : Nat → Prop} {g : Nat → Nat} {adK : Nat → Nat} {adV : Nat → Nat} {b : Nat} {a : Nat → Nat} {Ls : Nat} {xs : Nat → Int32} {res : Int32} (C : CallFix p m c cL_law 4 s args wsL_law RL) (G : GE dC dI cs s) (hX : va_X b Ls xs s s.heap) (hbl : b < s.heap.size) (hbA : ¬ A b) (hE : SE adK adV A s s.heap) (hJ : adI A (adr g a) 74) (hA : ∀ q : Nat, s.heap.size ≤ q → A q) (hR : RTw p l e s m args below meth c Q A res) (x3 : Int32) (B : Nat → Int32) (N : Tw) (P : Ps) (I1 : Int32) (T1 : Tw) (P1 : Ps) (I2 : Int32) (T2 : Tw) (P2 : Ps) (X : Tx) (R : Tw) (L : Wl) (K : Ch) (M : Ms) {K18 : Int32 → (Nat → Int32) → Tw → Ps → Int32 → Tw → Ps → Int32 → Tw → Ps → Tx → Tw → Wl → Ch → Ms → Option Int32} (hK18 : ∀ (x3 : Int32) (B : Nat → Int32) (N : Tw) (P : Ps) (I1 : Int32) (T1 : Tw) (P1 : Ps) (I2 : Int32) (T2 : Tw) (P2 : Ps) (X : Tx) (R : Tw) (L : Wl) (K : Ch) (M : Ms) (H : Heap) (locs : List Loc) (ls : Array Slot), lv_has ls 4 [(0, .ref b), (1, .ref (g 0)), (2, .ref (a 0)), (3, .int (x3))] → va_P (dC, dI) vwCl (wAll cs g a B N P I1 T1 P1 I2 T2 P2 X R L K M) H → va_S A s.heap H locs → K18 x3 B N P I1 T1 P1 I2 T2 P2 X R L K M = some res → W p l e room_1 s m args below meth c H locs 74 3434 Q (F0 m 18 ls [])) (H : Heap) (locs : List Loc) (ls : Array Slot) (hl : lv_has ls 4 [(0, .ref b), (1, .ref (g 0)), (2, .ref (a 0)), (3, .int (x3))]) (hP : va_P (dC, dI) vwCl (wAll cs g a B N P I1 T1 P1 I2 T2 P2 X R L K M) H) (hS : va_S A s.heap H locs) (hf : f_L_law_411 Ls xs x3 B N P I1 T1 P1 I2 T2 P2 X R L K M K18 = some res) : W p l e room_1 s m args below meth c H locs 74 3434 Q (F0 m 411 ls []) := by
  obtain ⟨hx, hb, hml, hown, hts⟩ := id C
  obtain ⟨hK, hN⟩ := id G
  unfold f_L_law_411 at hf
  refine lv_aload_n hx hb dL_law_411 rfl (lv_at hl 1 rfl) ?_
  refine lv_aload_n hx hb dL_law_412 rfl (lv_at hl 0 rfl) ?_
  refine lv_iload_n hx hb dL_law_413 rfl (lv_at hl 3 rfl) ?_
  refine lv_iconst (v := 1) hx hb dL_law_414 (by decide) ?_
  refine lv_iadd hx hb dL_law_415 ?_
  obtain ⟨hi1, hf⟩ := gi_e hf
  refine va_sld hx hb hX hbl hbA hS hi1 dL_law_416 ?_
  obtain ⟨r417, hr417, hf⟩ := bn_e hf
  have hPc : va_P (dC, dI) vwCl (wB g B ++ wT cs (fun i => g (1 + i)) N ++ wP cs (fun i => g (12 + i)) P) _ := ((hP.l.l.l.l.l.l.l.l.l.l.l.l.l.l).app (hP.l.l.l.l.l.l.l.l.l.l.l.l.l.r)).app (hP.l.l.l.l.l.l.l.l.l.l.l.l.r)
  have hec : ((wB g B ++ wT cs (fun i => g (1 + i)) N ++ wP cs (fun i => g (12 + i)) P)).map Prod.fst = ([0, 1, 2, 3, 4, 5, 6, 7, 8, 9, 10, 11, 12, 13] : List Nat).map (adr g a) := rfl
  have hDc := vD_adr hJ [0, 1, 2, 3, 4, 5, 6, 7, 8, 9, 10, 11, 12, 13] (by decide) (by decide) hec
  have hFc := vF_adr hDc hS hA
  refine va_calli (va_runV (As := [.int ((xs ((x3 + (1 : Int32))).toNatClampNeg))]) (rest := []) C (c_X7_pass l dC dI cs g H.size B N P (xs ((x3 + (1 : Int32))).toNatClampNeg) r417 hr417) (cwV 1 hts gL_law_X7_pass rfl rfl rfl (by decide +kernel) ⟨Nat.le_of_ble_eq_true rfl, Nat.le_of_ble_eq_true rfl⟩) ⟨(fun a U g mk q => ⟨q.1, q.2.1, q.2.2.1, GE.calling q.2.2.2.1, q.2.2.2.2⟩), va_recv hK hPc (ci := 7) (q0 := 0) rfl rfl, (fun U hU hW => ⟨rfl, by rw [hU], by rw [hU]; exact hPc, GE.warm hW G, hDc.weaken (fun _ _ _ _ => trivial)⟩)⟩ rfl rfl hl.1 rfl (lv_room (Nat.le_of_ble_eq_true rfl)) dL_law_417 ⟨Nat.le_of_ble_eq_true rfl, Nat.le_of_ble_eq_true rfl⟩) hS (fun q _ h => hFc q h) hFc (fun q u t H1 locs ht hvm hw hB hz1 hk1 hS => ?_)
  obtain ⟨rfl, rfl⟩ := hw
  obtain ⟨hP1, -⟩ := hB
  rw [ht] at hP1
  have hP : va_P (dC, dI) vwCl (wAll cs g a r417.2.1 r417.2.2.1 r417.2.2.2 I1 T1 P1 I2 T2 P2 X R L K M) H1 := ((((((((((((((hP1.l.l).app (hP1.l.r)).app (hP1.r)).app ((vP_keep hJ (hP.l.l.l.l.l.l.l.l.l.l.l.r) [14] [0, 1, 2, 3, 4, 5, 6, 7, 8, 9, 10, 11, 12, 13] rfl hec (by decide) (by decide) hk1))).app ((vP_keep hJ (hP.l.l.l.l.l.l.l.l.l.l.r) [15, 16, 17, 18, 19, 20, 21, 22, 23, 24, 25] [0, 1, 2, 3, 4, 5, 6, 7, 8, 9, 10, 11, 12, 13] rfl hec (by decide) (by decide) hk1))).app ((vP_keep hJ (hP.l.l.l.l.l.l.l.l.l.r) [26, 27] [0, 1, 2, 3, 4, 5, 6, 7, 8, 9, 10, 11, 12, 13] rfl hec (by decide) (by decide) hk1))).app ((vP_keep hJ (hP.l.l.l.l.l.l.l.l.r) [28] [0, 1, 2, 3, 4, 5, 6, 7, 8, 9, 10, 11, 12, 13] rfl hec (by decide) (by decide) hk1))).app ((vP_keep hJ (hP.l.l.l.l.l.l.l.r) [29, 30, 31, 32, 33, 34, 35, 36, 37, 38, 39] [0, 1, 2, 3, 4, 5, 6, 7, 8, 9, 10, 11, 12, 13] rfl hec (by decide) (by decide) hk1))).app ((vP_keep hJ (hP.l.l.l.l.l.l.r) [40, 41] [0, 1, 2, 3, 4, 5, 6, 7, 8, 9, 10, 11, 12, 13] rfl hec (by decide) (by decide) hk1))).app ((vP_keep hJ (hP.l.l.l.l.l.r) [42, 43] [0, 1, 2, 3, 4, 5, 6, 7, 8, 9, 10, 11, 12, 13] rfl hec (by decide) (by decide) hk1))).app ((vP_keep hJ (hP.l.l.l.l.r) [44] [0, 1, 2, 3, 4, 5, 6, 7, 8, 9, 10, 11, 12, 13] rfl hec (by decide) (by decide) hk1))).app ((vP_keep hJ (hP.l.l.l.r) [45, 46, 47, 48, 49, 50, 51, 52, 53, 54, 55] [0, 1, 2, 3, 4, 5, 6, 7, 8, 9, 10, 11, 12, 13] rfl hec (by decide) (by decide) hk1))).app ((vP_keep hJ (hP.l.l.r) [56, 57, 58, 59] [0, 1, 2, 3, 4, 5, 6, 7, 8, 9, 10, 11, 12, 13] rfl hec (by decide) (by decide) hk1))).app ((vP_keep hJ (hP.l.r) [60, 61] [0, 1, 2, 3, 4, 5, 6, 7, 8, 9, 10, 11, 12, 13] rfl hec (by decide) (by decide) hk1))).app ((vP_keep hJ (hP.r) [62, 63, 64, 65, 66, 67, 68, 69, 70, 71, 72, 73] [0, 1, 2, 3, 4, 5, 6, 7, 8, 9, 10, 11, 12, 13] rfl hec (by decide) (by decide) hk1))
  generalize H1 = H at hP hS ⊢
  refine lv_aload_n hx hb dL_law_420 rfl (lv_at hl 2 rfl) ?_
  refine lv_aload_n hx hb dL_law_421 rfl (lv_at hl 0 rfl) ?_
  refine lv_iload_n hx hb dL_law_422 rfl (lv_at hl 3 rfl) ?_
  refine lv_iconst (v := 1) hx hb dL_law_423 (by decide) ?_
  refine lv_iadd hx hb dL_law_424 ?_
  obtain ⟨hi2, hf⟩ := gi_e hf
  refine va_sld hx hb hX hbl hbA hS hi2 dL_law_425 ?_
  obtain ⟨r426, hr426, hf⟩ := bn_e hf
  have hPc : va_P (dC, dI) vwCl (wM cs a M) _ := hP.r
  have hec : ((wM cs a M)).map Prod.fst = ([62, 63, 64, 65, 66, 67, 68, 69, 70, 71, 72, 73] : List Nat).map (adr g a) := rfl
  have hDc := vD_adr hJ [62, 63, 64, 65, 66, 67, 68, 69, 70, 71, 72, 73] (by decide) (by decide) hec
  have hFc := vF_adr hDc hS hA
  refine va_calli (va_runV (As := [.int ((xs ((x3 + (1 : Int32))).toNatClampNeg))]) (rest := [.int (r417.1)]) C (c_X8_pass l dC dI cs a H.size M (xs ((x3 + (1 : Int32))).toNatClampNeg) r426 hr426) (cwV 1 hts gL_law_X8_pass rfl rfl rfl (by decide +kernel) ⟨Nat.le_of_ble_eq_true rfl, Nat.le_of_ble_eq_true rfl⟩) ⟨(fun a U g mk q => ⟨q.1, q.2.1, q.2.2.1, GE.calling q.2.2.2.1, q.2.2.2.2⟩), va_recv hK hPc (ci := 8) (q0 := 0) rfl rfl, (fun U hU hW => ⟨rfl, by rw [hU], by rw [hU]; exact hPc, GE.warm hW G, hDc.weaken (fun _ _ _ _ => trivial)⟩)⟩ rfl rfl hl.1 rfl (lv_room (Nat.le_of_ble_eq_true rfl)) dL_law_426 ⟨Nat.le_of_ble_eq_true rfl, Nat.le_of_ble_eq_true rfl⟩) hS (fun q _ h => hFc q h) hFc (fun q u t H1 locs ht hvm hw hB hz1 hk1 hS => ?_)
  obtain ⟨rfl, rfl⟩ := hw
  obtain ⟨hP1, -⟩ := hB
  rw [ht] at hP1
  have hP : va_P (dC, dI) vwCl (wAll cs g a r417.2.1 r417.2.2.1 r417.2.2.2 I1 T1 P1 I2 T2 P2 X R L K r426.2) H1 := (((((((((((((((vP_keep hJ (hP.l.l.l.l.l.l.l.l.l.l.l.l.l.l) [0] [62, 63, 64, 65, 66, 67, 68, 69, 70, 71, 72, 73] rfl hec (by decide) (by decide) hk1)).app ((vP_keep hJ (hP.l.l.l.l.l.l.l.l.l.l.l.l.l.r) [1, 2, 3, 4, 5, 6, 7, 8, 9, 10, 11] [62, 63, 64, 65, 66, 67, 68, 69, 70, 71, 72, 73] rfl hec (by decide) (by decide) hk1))).app ((vP_keep hJ (hP.l.l.l.l.l.l.l.l.l.l.l.l.r) [12, 13] [62, 63, 64, 65, 66, 67, 68, 69, 70, 71, 72, 73] rfl hec (by decide) (by decide) hk1))).app ((vP_keep hJ (hP.l.l.l.l.l.l.l.l.l.l.l.r) [14] [62, 63, 64, 65, 66, 67, 68, 69, 70, 71, 72, 73] rfl hec (by decide) (by decide) hk1))).app ((vP_keep hJ (hP.l.l.l.l.l.l.l.l.l.l.r) [15, 16, 17, 18, 19, 20, 21, 22, 23, 24, 25] [62, 63, 64, 65, 66, 67, 68, 69, 70, 71, 72, 73] rfl hec (by decide) (by decide) hk1))).app ((vP_keep hJ (hP.l.l.l.l.l.l.l.l.l.r) [26, 27] [62, 63, 64, 65, 66, 67, 68, 69, 70, 71, 72, 73] rfl hec (by decide) (by decide) hk1))).app ((vP_keep hJ (hP.l.l.l.l.l.l.l.l.r) [28] [62, 63, 64, 65, 66, 67, 68, 69, 70, 71, 72, 73] rfl hec (by decide) (by decide) hk1))).app ((vP_keep hJ (hP.l.l.l.l.l.l.l.r) [29, 30, 31, 32, 33, 34, 35, 36, 37, 38, 39] [62, 63, 64, 65, 66, 67, 68, 69, 70, 71, 72, 73] rfl hec (by decide) (by decide) hk1))).app ((vP_keep hJ (hP.l.l.l.l.l.l.r) [40, 41] [62, 63, 64, 65, 66, 67, 68, 69, 70, 71, 72, 73] rfl hec (by decide) (by decide) hk1))).app ((vP_keep hJ (hP.l.l.l.l.l.r) [42, 43] [62, 63, 64, 65, 66, 67, 68, 69, 70, 71, 72, 73] rfl hec (by decide) (by decide) hk1))).app ((vP_keep hJ (hP.l.l.l.l.r) [44] [62, 63, 64, 65, 66, 67, 68, 69, 70, 71, 72, 73] rfl hec (by decide) (by decide) hk1))).app ((vP_keep hJ (hP.l.l.l.r) [45, 46, 47, 48, 49, 50, 51, 52, 53, 54, 55] [62, 63, 64, 65, 66, 67, 68, 69, 70, 71, 72, 73] rfl hec (by decide) (by decide) hk1))).app ((vP_keep hJ (hP.l.l.r) [56, 57, 58, 59] [62, 63, 64, 65, 66, 67, 68, 69, 70, 71, 72, 73] rfl hec (by decide) (by decide) hk1))).app ((vP_keep hJ (hP.l.r) [60, 61] [62, 63, 64, 65, 66, 67, 68, 69, 70, 71, 72, 73] rfl hec (by decide) (by decide) hk1))).app (hP1)
  generalize H1 = H at hP hS ⊢
  refine lv_icmp_eq (tgt := 1128) hx hb dL_law_429 (by decide) (fun c3 => ?_) (fun c3 => ?_)
  · replace hf := it_t c3 hf
    exact b_L_law_1128 C G hX hbl hbA hE hJ hA hR x3 r417.2.1 r417.2.2.1 r417.2.2.2 I1 T1 P1 I2 T2 P2 X R L K r426.2 hK18 _ _ _ (lv_sub hl [0, 1, 2, 3] rfl) hP hS hf
  · replace hf := it_f c3 hf
    refine lv_iconst (v := 0) hx hb dL_law_432 (by decide) ?_
    exact hR _ _ _ _ _ dL_law_433 hf hS
def f_L_law_434 (Ls : Nat) (xs : Nat → Int32) (x3 : Int32) (B : Nat → Int32) (N : Tw) (P : Ps) (I1 : Int32) (T1 : Tw) (P1 : Ps) (I2 : Int32) (T2 : Tw) (P2 : Ps) (X : Tx) (R : Tw) (L : Wl) (K : Ch) (M : Ms) (K18 : Int32 → (Nat → Int32) → Tw → Ps → Int32 → Tw → Ps → Int32 → Tw → Ps → Tx → Tw → Wl → Ch → Ms → Option Int32) : Option Int32 :=
  gi ((x3 + (1 : Int32))) Ls <|
  gi ((x3 + (2 : Int32))) Ls <|
  bn (f_X7_join (xs ((x3 + (1 : Int32))).toNatClampNeg) (xs ((x3 + (2 : Int32))).toNatClampNeg) B N P) fun r445 =>
  gi ((x3 + (1 : Int32))) Ls <|
  gi ((x3 + (2 : Int32))) Ls <|
  bn (f_X8_join (xs ((x3 + (1 : Int32))).toNatClampNeg) (xs ((x3 + (2 : Int32))).toNatClampNeg) M) fun r459 =>
  if r445.1 = r459.1 then (
    f_L_law_1128 Ls xs x3 r445.2.1 r445.2.2.1 r445.2.2.2 I1 T1 P1 I2 T2 P2 X R L K r459.2 K18
  ) else (
    some (0 : Int32)
  )
set_option maxHeartbeats 4000000 in
set_option maxRecDepth 100000 in
theorem b_L_law_434 {p : Program} {l : Launch} {e : Env} {s : State} {m : MethodId} {args : Array Value} {below : List Frame} {meth : Method} {c : Code} {Q : State → Prop} {dC : Nat → ClassId} {dI : Nat → Nat → Nat} {cs : Nat → ClassId} {A : Nat → Prop} {g : Nat → Nat} {adK : Nat → Nat} {adV : Nat → Nat} {b : Nat} {a : Nat → Nat} {Ls : Nat} {xs : Nat → Int32} {res : Int32} (C : CallFix p m c cL_law 4 s args wsL_law RL) (G : GE dC dI cs s) (hX : va_X b Ls xs s s.heap) (hbl : b < s.heap.size) (hbA : ¬ A b) (hE : SE adK adV A s s.heap) (hJ : adI A (adr g a) 74) (hA : ∀ q : Nat, s.heap.size ≤ q → A q) (hR : RTw p l e s m args below meth c Q A res) (x3 : Int32) (B : Nat → Int32) (N : Tw) (P : Ps) (I1 : Int32) (T1 : Tw) (P1 : Ps) (I2 : Int32) (T2 : Tw) (P2 : Ps) (X : Tx) (R : Tw) (L : Wl) (K : Ch) (M : Ms) {K18 : Int32 → (Nat → Int32) → Tw → Ps → Int32 → Tw → Ps → Int32 → Tw → Ps → Tx → Tw → Wl → Ch → Ms → Option Int32} (hK18 : ∀ (x3 : Int32) (B : Nat → Int32) (N : Tw) (P : Ps) (I1 : Int32) (T1 : Tw) (P1 : Ps) (I2 : Int32) (T2 : Tw) (P2 : Ps) (X : Tx) (R : Tw) (L : Wl) (K : Ch) (M : Ms) (H : Heap) (locs : List Loc) (ls : Array Slot), lv_has ls 4 [(0, .ref b), (1, .ref (g 0)), (2, .ref (a 0)), (3, .int (x3))] → va_P (dC, dI) vwCl (wAll cs g a B N P I1 T1 P1 I2 T2 P2 X R L K M) H → va_S A s.heap H locs → K18 x3 B N P I1 T1 P1 I2 T2 P2 X R L K M = some res → W p l e room_1 s m args below meth c H locs 74 3434 Q (F0 m 18 ls [])) (H : Heap) (locs : List Loc) (ls : Array Slot) (hl : lv_has ls 4 [(0, .ref b), (1, .ref (g 0)), (2, .ref (a 0)), (3, .int (x3))]) (hP : va_P (dC, dI) vwCl (wAll cs g a B N P I1 T1 P1 I2 T2 P2 X R L K M) H) (hS : va_S A s.heap H locs) (hf : f_L_law_434 Ls xs x3 B N P I1 T1 P1 I2 T2 P2 X R L K M K18 = some res) : W p l e room_1 s m args below meth c H locs 74 3434 Q (F0 m 434 ls []) := by
  obtain ⟨hx, hb, hml, hown, hts⟩ := id C
  obtain ⟨hK, hN⟩ := id G
  unfold f_L_law_434 at hf
  refine lv_aload_n hx hb dL_law_434 rfl (lv_at hl 1 rfl) ?_
  refine lv_aload_n hx hb dL_law_435 rfl (lv_at hl 0 rfl) ?_
  refine lv_iload_n hx hb dL_law_436 rfl (lv_at hl 3 rfl) ?_
  refine lv_iconst (v := 1) hx hb dL_law_437 (by decide) ?_
  refine lv_iadd hx hb dL_law_438 ?_
  obtain ⟨hi1, hf⟩ := gi_e hf
  refine va_sld hx hb hX hbl hbA hS hi1 dL_law_439 ?_
  refine lv_aload_n hx hb dL_law_440 rfl (lv_at hl 0 rfl) ?_
  refine lv_iload_n hx hb dL_law_441 rfl (lv_at hl 3 rfl) ?_
  refine lv_iconst (v := 2) hx hb dL_law_442 (by decide) ?_
  refine lv_iadd hx hb dL_law_443 ?_
  obtain ⟨hi2, hf⟩ := gi_e hf
  refine va_sld hx hb hX hbl hbA hS hi2 dL_law_444 ?_
  obtain ⟨r445, hr445, hf⟩ := bn_e hf
  have hPc : va_P (dC, dI) vwCl (wB g B ++ wT cs (fun i => g (1 + i)) N ++ wP cs (fun i => g (12 + i)) P) _ := ((hP.l.l.l.l.l.l.l.l.l.l.l.l.l.l).app (hP.l.l.l.l.l.l.l.l.l.l.l.l.l.r)).app (hP.l.l.l.l.l.l.l.l.l.l.l.l.r)
  have hec : ((wB g B ++ wT cs (fun i => g (1 + i)) N ++ wP cs (fun i => g (12 + i)) P)).map Prod.fst = ([0, 1, 2, 3, 4, 5, 6, 7, 8, 9, 10, 11, 12, 13] : List Nat).map (adr g a) := rfl
  have hDc := vD_adr hJ [0, 1, 2, 3, 4, 5, 6, 7, 8, 9, 10, 11, 12, 13] (by decide) (by decide) hec
  have hFc := vF_adr hDc hS hA
  refine va_calli (va_runV (As := [.int ((xs ((x3 + (1 : Int32))).toNatClampNeg)), .int ((xs ((x3 + (2 : Int32))).toNatClampNeg))]) (rest := []) C (c_X7_join l dC dI cs g H.size B N P (xs ((x3 + (1 : Int32))).toNatClampNeg) (xs ((x3 + (2 : Int32))).toNatClampNeg) r445 hr445) (cwV 2 hts gL_law_X7_join rfl rfl rfl (by decide +kernel) ⟨Nat.le_of_ble_eq_true rfl, Nat.le_of_ble_eq_true rfl⟩) ⟨(fun a U g mk q => ⟨q.1, q.2.1, q.2.2.1, GE.calling q.2.2.2.1, q.2.2.2.2⟩), va_recv hK hPc (ci := 7) (q0 := 0) rfl rfl, (fun U hU hW => ⟨rfl, by rw [hU], by rw [hU]; exact hPc, GE.warm hW G, hDc.weaken (fun _ _ _ _ => trivial)⟩)⟩ rfl rfl hl.1 rfl (lv_room (Nat.le_of_ble_eq_true rfl)) dL_law_445 ⟨Nat.le_of_ble_eq_true rfl, Nat.le_of_ble_eq_true rfl⟩) hS (fun q _ h => hFc q h) hFc (fun q u t H1 locs ht hvm hw hB hz1 hk1 hS => ?_)
  obtain ⟨rfl, rfl⟩ := hw
  obtain ⟨hP1, -⟩ := hB
  rw [ht] at hP1
  have hP : va_P (dC, dI) vwCl (wAll cs g a r445.2.1 r445.2.2.1 r445.2.2.2 I1 T1 P1 I2 T2 P2 X R L K M) H1 := ((((((((((((((hP1.l.l).app (hP1.l.r)).app (hP1.r)).app ((vP_keep hJ (hP.l.l.l.l.l.l.l.l.l.l.l.r) [14] [0, 1, 2, 3, 4, 5, 6, 7, 8, 9, 10, 11, 12, 13] rfl hec (by decide) (by decide) hk1))).app ((vP_keep hJ (hP.l.l.l.l.l.l.l.l.l.l.r) [15, 16, 17, 18, 19, 20, 21, 22, 23, 24, 25] [0, 1, 2, 3, 4, 5, 6, 7, 8, 9, 10, 11, 12, 13] rfl hec (by decide) (by decide) hk1))).app ((vP_keep hJ (hP.l.l.l.l.l.l.l.l.l.r) [26, 27] [0, 1, 2, 3, 4, 5, 6, 7, 8, 9, 10, 11, 12, 13] rfl hec (by decide) (by decide) hk1))).app ((vP_keep hJ (hP.l.l.l.l.l.l.l.l.r) [28] [0, 1, 2, 3, 4, 5, 6, 7, 8, 9, 10, 11, 12, 13] rfl hec (by decide) (by decide) hk1))).app ((vP_keep hJ (hP.l.l.l.l.l.l.l.r) [29, 30, 31, 32, 33, 34, 35, 36, 37, 38, 39] [0, 1, 2, 3, 4, 5, 6, 7, 8, 9, 10, 11, 12, 13] rfl hec (by decide) (by decide) hk1))).app ((vP_keep hJ (hP.l.l.l.l.l.l.r) [40, 41] [0, 1, 2, 3, 4, 5, 6, 7, 8, 9, 10, 11, 12, 13] rfl hec (by decide) (by decide) hk1))).app ((vP_keep hJ (hP.l.l.l.l.l.r) [42, 43] [0, 1, 2, 3, 4, 5, 6, 7, 8, 9, 10, 11, 12, 13] rfl hec (by decide) (by decide) hk1))).app ((vP_keep hJ (hP.l.l.l.l.r) [44] [0, 1, 2, 3, 4, 5, 6, 7, 8, 9, 10, 11, 12, 13] rfl hec (by decide) (by decide) hk1))).app ((vP_keep hJ (hP.l.l.l.r) [45, 46, 47, 48, 49, 50, 51, 52, 53, 54, 55] [0, 1, 2, 3, 4, 5, 6, 7, 8, 9, 10, 11, 12, 13] rfl hec (by decide) (by decide) hk1))).app ((vP_keep hJ (hP.l.l.r) [56, 57, 58, 59] [0, 1, 2, 3, 4, 5, 6, 7, 8, 9, 10, 11, 12, 13] rfl hec (by decide) (by decide) hk1))).app ((vP_keep hJ (hP.l.r) [60, 61] [0, 1, 2, 3, 4, 5, 6, 7, 8, 9, 10, 11, 12, 13] rfl hec (by decide) (by decide) hk1))).app ((vP_keep hJ (hP.r) [62, 63, 64, 65, 66, 67, 68, 69, 70, 71, 72, 73] [0, 1, 2, 3, 4, 5, 6, 7, 8, 9, 10, 11, 12, 13] rfl hec (by decide) (by decide) hk1))
  generalize H1 = H at hP hS ⊢
  refine lv_aload_n hx hb dL_law_448 rfl (lv_at hl 2 rfl) ?_
  refine lv_aload_n hx hb dL_law_449 rfl (lv_at hl 0 rfl) ?_
  refine lv_iload_n hx hb dL_law_450 rfl (lv_at hl 3 rfl) ?_
  refine lv_iconst (v := 1) hx hb dL_law_451 (by decide) ?_
  refine lv_iadd hx hb dL_law_452 ?_
  obtain ⟨hi3, hf⟩ := gi_e hf
  refine va_sld hx hb hX hbl hbA hS hi3 dL_law_453 ?_
  refine lv_aload_n hx hb dL_law_454 rfl (lv_at hl 0 rfl) ?_
  refine lv_iload_n hx hb dL_law_455 rfl (lv_at hl 3 rfl) ?_
  refine lv_iconst (v := 2) hx hb dL_law_456 (by decide) ?_
  refine lv_iadd hx hb dL_law_457 ?_
  obtain ⟨hi4, hf⟩ := gi_e hf
  refine va_sld hx hb hX hbl hbA hS hi4 dL_law_458 ?_
  obtain ⟨r459, hr459, hf⟩ := bn_e hf
  have hPc : va_P (dC, dI) vwCl (wM cs a M) _ := hP.r
  have hec : ((wM cs a M)).map Prod.fst = ([62, 63, 64, 65, 66, 67, 68, 69, 70, 71, 72, 73] : List Nat).map (adr g a) := rfl
  have hDc := vD_adr hJ [62, 63, 64, 65, 66, 67, 68, 69, 70, 71, 72, 73] (by decide) (by decide) hec
  have hFc := vF_adr hDc hS hA
  refine va_calli (va_runV (As := [.int ((xs ((x3 + (1 : Int32))).toNatClampNeg)), .int ((xs ((x3 + (2 : Int32))).toNatClampNeg))]) (rest := [.int (r445.1)]) C (c_X8_join l dC dI cs a H.size M (xs ((x3 + (1 : Int32))).toNatClampNeg) (xs ((x3 + (2 : Int32))).toNatClampNeg) r459 hr459) (cwV 2 hts gL_law_X8_join rfl rfl rfl (by decide +kernel) ⟨Nat.le_of_ble_eq_true rfl, Nat.le_of_ble_eq_true rfl⟩) ⟨(fun a U g mk q => ⟨q.1, q.2.1, q.2.2.1, GE.calling q.2.2.2.1, q.2.2.2.2⟩), va_recv hK hPc (ci := 8) (q0 := 0) rfl rfl, (fun U hU hW => ⟨rfl, by rw [hU], by rw [hU]; exact hPc, GE.warm hW G, hDc.weaken (fun _ _ _ _ => trivial)⟩)⟩ rfl rfl hl.1 rfl (lv_room (Nat.le_of_ble_eq_true rfl)) dL_law_459 ⟨Nat.le_of_ble_eq_true rfl, Nat.le_of_ble_eq_true rfl⟩) hS (fun q _ h => hFc q h) hFc (fun q u t H1 locs ht hvm hw hB hz1 hk1 hS => ?_)
  obtain ⟨rfl, rfl⟩ := hw
  obtain ⟨hP1, -⟩ := hB
  rw [ht] at hP1
  have hP : va_P (dC, dI) vwCl (wAll cs g a r445.2.1 r445.2.2.1 r445.2.2.2 I1 T1 P1 I2 T2 P2 X R L K r459.2) H1 := (((((((((((((((vP_keep hJ (hP.l.l.l.l.l.l.l.l.l.l.l.l.l.l) [0] [62, 63, 64, 65, 66, 67, 68, 69, 70, 71, 72, 73] rfl hec (by decide) (by decide) hk1)).app ((vP_keep hJ (hP.l.l.l.l.l.l.l.l.l.l.l.l.l.r) [1, 2, 3, 4, 5, 6, 7, 8, 9, 10, 11] [62, 63, 64, 65, 66, 67, 68, 69, 70, 71, 72, 73] rfl hec (by decide) (by decide) hk1))).app ((vP_keep hJ (hP.l.l.l.l.l.l.l.l.l.l.l.l.r) [12, 13] [62, 63, 64, 65, 66, 67, 68, 69, 70, 71, 72, 73] rfl hec (by decide) (by decide) hk1))).app ((vP_keep hJ (hP.l.l.l.l.l.l.l.l.l.l.l.r) [14] [62, 63, 64, 65, 66, 67, 68, 69, 70, 71, 72, 73] rfl hec (by decide) (by decide) hk1))).app ((vP_keep hJ (hP.l.l.l.l.l.l.l.l.l.l.r) [15, 16, 17, 18, 19, 20, 21, 22, 23, 24, 25] [62, 63, 64, 65, 66, 67, 68, 69, 70, 71, 72, 73] rfl hec (by decide) (by decide) hk1))).app ((vP_keep hJ (hP.l.l.l.l.l.l.l.l.l.r) [26, 27] [62, 63, 64, 65, 66, 67, 68, 69, 70, 71, 72, 73] rfl hec (by decide) (by decide) hk1))).app ((vP_keep hJ (hP.l.l.l.l.l.l.l.l.r) [28] [62, 63, 64, 65, 66, 67, 68, 69, 70, 71, 72, 73] rfl hec (by decide) (by decide) hk1))).app ((vP_keep hJ (hP.l.l.l.l.l.l.l.r) [29, 30, 31, 32, 33, 34, 35, 36, 37, 38, 39] [62, 63, 64, 65, 66, 67, 68, 69, 70, 71, 72, 73] rfl hec (by decide) (by decide) hk1))).app ((vP_keep hJ (hP.l.l.l.l.l.l.r) [40, 41] [62, 63, 64, 65, 66, 67, 68, 69, 70, 71, 72, 73] rfl hec (by decide) (by decide) hk1))).app ((vP_keep hJ (hP.l.l.l.l.l.r) [42, 43] [62, 63, 64, 65, 66, 67, 68, 69, 70, 71, 72, 73] rfl hec (by decide) (by decide) hk1))).app ((vP_keep hJ (hP.l.l.l.l.r) [44] [62, 63, 64, 65, 66, 67, 68, 69, 70, 71, 72, 73] rfl hec (by decide) (by decide) hk1))).app ((vP_keep hJ (hP.l.l.l.r) [45, 46, 47, 48, 49, 50, 51, 52, 53, 54, 55] [62, 63, 64, 65, 66, 67, 68, 69, 70, 71, 72, 73] rfl hec (by decide) (by decide) hk1))).app ((vP_keep hJ (hP.l.l.r) [56, 57, 58, 59] [62, 63, 64, 65, 66, 67, 68, 69, 70, 71, 72, 73] rfl hec (by decide) (by decide) hk1))).app ((vP_keep hJ (hP.l.r) [60, 61] [62, 63, 64, 65, 66, 67, 68, 69, 70, 71, 72, 73] rfl hec (by decide) (by decide) hk1))).app (hP1)
  generalize H1 = H at hP hS ⊢
  refine lv_icmp_eq (tgt := 1128) hx hb dL_law_462 (by decide) (fun c5 => ?_) (fun c5 => ?_)
  · replace hf := it_t c5 hf
    exact b_L_law_1128 C G hX hbl hbA hE hJ hA hR x3 r445.2.1 r445.2.2.1 r445.2.2.2 I1 T1 P1 I2 T2 P2 X R L K r459.2 hK18 _ _ _ (lv_sub hl [0, 1, 2, 3] rfl) hP hS hf
  · replace hf := it_f c5 hf
    refine lv_iconst (v := 0) hx hb dL_law_465 (by decide) ?_
    exact hR _ _ _ _ _ dL_law_466 hf hS
def f_L_law_467 (Ls : Nat) (xs : Nat → Int32) (x3 : Int32) (B : Nat → Int32) (N : Tw) (P : Ps) (I1 : Int32) (T1 : Tw) (P1 : Ps) (I2 : Int32) (T2 : Tw) (P2 : Ps) (X : Tx) (R : Tw) (L : Wl) (K : Ch) (M : Ms) (K18 : Int32 → (Nat → Int32) → Tw → Ps → Int32 → Tw → Ps → Int32 → Tw → Ps → Tx → Tw → Wl → Ch → Ms → Option Int32) : Option Int32 :=
  gi ((x3 + (1 : Int32))) Ls <|
  gi ((x3 + (2 : Int32))) Ls <|
  gi ((x3 + (3 : Int32))) Ls <|
  bn (f_X7_sell (xs ((x3 + (1 : Int32))).toNatClampNeg) (xs ((x3 + (2 : Int32))).toNatClampNeg) (xs ((x3 + (3 : Int32))).toNatClampNeg) B N P) fun r483 =>
  gi ((x3 + (1 : Int32))) Ls <|
  gi ((x3 + (2 : Int32))) Ls <|
  gi ((x3 + (3 : Int32))) Ls <|
  bn (f_X8_sell (xs ((x3 + (1 : Int32))).toNatClampNeg) (xs ((x3 + (2 : Int32))).toNatClampNeg) (xs ((x3 + (3 : Int32))).toNatClampNeg) M) fun r502 =>
  if r483.1 = r502.1 then (
    f_L_law_1128 Ls xs x3 r483.2.1 r483.2.2.1 r483.2.2.2 I1 T1 P1 I2 T2 P2 X R L K r502.2 K18
  ) else (
    some (0 : Int32)
  )
set_option maxHeartbeats 4000000 in
set_option maxRecDepth 100000 in
theorem b_L_law_467 {p : Program} {l : Launch} {e : Env} {s : State} {m : MethodId} {args : Array Value} {below : List Frame} {meth : Method} {c : Code} {Q : State → Prop} {dC : Nat → ClassId} {dI : Nat → Nat → Nat} {cs : Nat → ClassId} {A : Nat → Prop} {g : Nat → Nat} {adK : Nat → Nat} {adV : Nat → Nat} {b : Nat} {a : Nat → Nat} {Ls : Nat} {xs : Nat → Int32} {res : Int32} (C : CallFix p m c cL_law 4 s args wsL_law RL) (G : GE dC dI cs s) (hX : va_X b Ls xs s s.heap) (hbl : b < s.heap.size) (hbA : ¬ A b) (hE : SE adK adV A s s.heap) (hJ : adI A (adr g a) 74) (hA : ∀ q : Nat, s.heap.size ≤ q → A q) (hR : RTw p l e s m args below meth c Q A res) (x3 : Int32) (B : Nat → Int32) (N : Tw) (P : Ps) (I1 : Int32) (T1 : Tw) (P1 : Ps) (I2 : Int32) (T2 : Tw) (P2 : Ps) (X : Tx) (R : Tw) (L : Wl) (K : Ch) (M : Ms) {K18 : Int32 → (Nat → Int32) → Tw → Ps → Int32 → Tw → Ps → Int32 → Tw → Ps → Tx → Tw → Wl → Ch → Ms → Option Int32} (hK18 : ∀ (x3 : Int32) (B : Nat → Int32) (N : Tw) (P : Ps) (I1 : Int32) (T1 : Tw) (P1 : Ps) (I2 : Int32) (T2 : Tw) (P2 : Ps) (X : Tx) (R : Tw) (L : Wl) (K : Ch) (M : Ms) (H : Heap) (locs : List Loc) (ls : Array Slot), lv_has ls 4 [(0, .ref b), (1, .ref (g 0)), (2, .ref (a 0)), (3, .int (x3))] → va_P (dC, dI) vwCl (wAll cs g a B N P I1 T1 P1 I2 T2 P2 X R L K M) H → va_S A s.heap H locs → K18 x3 B N P I1 T1 P1 I2 T2 P2 X R L K M = some res → W p l e room_1 s m args below meth c H locs 74 3434 Q (F0 m 18 ls [])) (H : Heap) (locs : List Loc) (ls : Array Slot) (hl : lv_has ls 4 [(0, .ref b), (1, .ref (g 0)), (2, .ref (a 0)), (3, .int (x3))]) (hP : va_P (dC, dI) vwCl (wAll cs g a B N P I1 T1 P1 I2 T2 P2 X R L K M) H) (hS : va_S A s.heap H locs) (hf : f_L_law_467 Ls xs x3 B N P I1 T1 P1 I2 T2 P2 X R L K M K18 = some res) : W p l e room_1 s m args below meth c H locs 74 3434 Q (F0 m 467 ls []) := by
  obtain ⟨hx, hb, hml, hown, hts⟩ := id C
  obtain ⟨hK, hN⟩ := id G
  unfold f_L_law_467 at hf
  refine lv_aload_n hx hb dL_law_467 rfl (lv_at hl 1 rfl) ?_
  refine lv_aload_n hx hb dL_law_468 rfl (lv_at hl 0 rfl) ?_
  refine lv_iload_n hx hb dL_law_469 rfl (lv_at hl 3 rfl) ?_
  refine lv_iconst (v := 1) hx hb dL_law_470 (by decide) ?_
  refine lv_iadd hx hb dL_law_471 ?_
  obtain ⟨hi1, hf⟩ := gi_e hf
  refine va_sld hx hb hX hbl hbA hS hi1 dL_law_472 ?_
  refine lv_aload_n hx hb dL_law_473 rfl (lv_at hl 0 rfl) ?_
  refine lv_iload_n hx hb dL_law_474 rfl (lv_at hl 3 rfl) ?_
  refine lv_iconst (v := 2) hx hb dL_law_475 (by decide) ?_
  refine lv_iadd hx hb dL_law_476 ?_
  obtain ⟨hi2, hf⟩ := gi_e hf
  refine va_sld hx hb hX hbl hbA hS hi2 dL_law_477 ?_
  refine lv_aload_n hx hb dL_law_478 rfl (lv_at hl 0 rfl) ?_
  refine lv_iload_n hx hb dL_law_479 rfl (lv_at hl 3 rfl) ?_
  refine lv_iconst (v := 3) hx hb dL_law_480 (by decide) ?_
  refine lv_iadd hx hb dL_law_481 ?_
  obtain ⟨hi3, hf⟩ := gi_e hf
  refine va_sld hx hb hX hbl hbA hS hi3 dL_law_482 ?_
  obtain ⟨r483, hr483, hf⟩ := bn_e hf
  have hPc : va_P (dC, dI) vwCl (wB g B ++ wT cs (fun i => g (1 + i)) N ++ wP cs (fun i => g (12 + i)) P) _ := ((hP.l.l.l.l.l.l.l.l.l.l.l.l.l.l).app (hP.l.l.l.l.l.l.l.l.l.l.l.l.l.r)).app (hP.l.l.l.l.l.l.l.l.l.l.l.l.r)
  have hec : ((wB g B ++ wT cs (fun i => g (1 + i)) N ++ wP cs (fun i => g (12 + i)) P)).map Prod.fst = ([0, 1, 2, 3, 4, 5, 6, 7, 8, 9, 10, 11, 12, 13] : List Nat).map (adr g a) := rfl
  have hDc := vD_adr hJ [0, 1, 2, 3, 4, 5, 6, 7, 8, 9, 10, 11, 12, 13] (by decide) (by decide) hec
  have hFc := vF_adr hDc hS hA
  refine va_calli (va_runV (As := [.int ((xs ((x3 + (1 : Int32))).toNatClampNeg)), .int ((xs ((x3 + (2 : Int32))).toNatClampNeg)), .int ((xs ((x3 + (3 : Int32))).toNatClampNeg))]) (rest := []) C (c_X7_sell l dC dI cs g H.size B N P (xs ((x3 + (1 : Int32))).toNatClampNeg) (xs ((x3 + (2 : Int32))).toNatClampNeg) (xs ((x3 + (3 : Int32))).toNatClampNeg) r483 hr483) (cwV 3 hts gL_law_X7_sell rfl rfl rfl (by decide +kernel) ⟨Nat.le_of_ble_eq_true rfl, Nat.le_of_ble_eq_true rfl⟩) ⟨(fun a U g mk q => ⟨q.1, q.2.1, q.2.2.1, GE.calling q.2.2.2.1, q.2.2.2.2⟩), va_recv hK hPc (ci := 7) (q0 := 0) rfl rfl, (fun U hU hW => ⟨rfl, by rw [hU], by rw [hU]; exact hPc, GE.warm hW G, hDc.weaken (fun _ _ _ _ => trivial)⟩)⟩ rfl rfl hl.1 rfl (lv_room (Nat.le_of_ble_eq_true rfl)) dL_law_483 ⟨Nat.le_of_ble_eq_true rfl, Nat.le_of_ble_eq_true rfl⟩) hS (fun q _ h => hFc q h) hFc (fun q u t H1 locs ht hvm hw hB hz1 hk1 hS => ?_)
  obtain ⟨rfl, rfl⟩ := hw
  obtain ⟨hP1, -⟩ := hB
  rw [ht] at hP1
  have hP : va_P (dC, dI) vwCl (wAll cs g a r483.2.1 r483.2.2.1 r483.2.2.2 I1 T1 P1 I2 T2 P2 X R L K M) H1 := ((((((((((((((hP1.l.l).app (hP1.l.r)).app (hP1.r)).app ((vP_keep hJ (hP.l.l.l.l.l.l.l.l.l.l.l.r) [14] [0, 1, 2, 3, 4, 5, 6, 7, 8, 9, 10, 11, 12, 13] rfl hec (by decide) (by decide) hk1))).app ((vP_keep hJ (hP.l.l.l.l.l.l.l.l.l.l.r) [15, 16, 17, 18, 19, 20, 21, 22, 23, 24, 25] [0, 1, 2, 3, 4, 5, 6, 7, 8, 9, 10, 11, 12, 13] rfl hec (by decide) (by decide) hk1))).app ((vP_keep hJ (hP.l.l.l.l.l.l.l.l.l.r) [26, 27] [0, 1, 2, 3, 4, 5, 6, 7, 8, 9, 10, 11, 12, 13] rfl hec (by decide) (by decide) hk1))).app ((vP_keep hJ (hP.l.l.l.l.l.l.l.l.r) [28] [0, 1, 2, 3, 4, 5, 6, 7, 8, 9, 10, 11, 12, 13] rfl hec (by decide) (by decide) hk1))).app ((vP_keep hJ (hP.l.l.l.l.l.l.l.r) [29, 30, 31, 32, 33, 34, 35, 36, 37, 38, 39] [0, 1, 2, 3, 4, 5, 6, 7, 8, 9, 10, 11, 12, 13] rfl hec (by decide) (by decide) hk1))).app ((vP_keep hJ (hP.l.l.l.l.l.l.r) [40, 41] [0, 1, 2, 3, 4, 5, 6, 7, 8, 9, 10, 11, 12, 13] rfl hec (by decide) (by decide) hk1))).app ((vP_keep hJ (hP.l.l.l.l.l.r) [42, 43] [0, 1, 2, 3, 4, 5, 6, 7, 8, 9, 10, 11, 12, 13] rfl hec (by decide) (by decide) hk1))).app ((vP_keep hJ (hP.l.l.l.l.r) [44] [0, 1, 2, 3, 4, 5, 6, 7, 8, 9, 10, 11, 12, 13] rfl hec (by decide) (by decide) hk1))).app ((vP_keep hJ (hP.l.l.l.r) [45, 46, 47, 48, 49, 50, 51, 52, 53, 54, 55] [0, 1, 2, 3, 4, 5, 6, 7, 8, 9, 10, 11, 12, 13] rfl hec (by decide) (by decide) hk1))).app ((vP_keep hJ (hP.l.l.r) [56, 57, 58, 59] [0, 1, 2, 3, 4, 5, 6, 7, 8, 9, 10, 11, 12, 13] rfl hec (by decide) (by decide) hk1))).app ((vP_keep hJ (hP.l.r) [60, 61] [0, 1, 2, 3, 4, 5, 6, 7, 8, 9, 10, 11, 12, 13] rfl hec (by decide) (by decide) hk1))).app ((vP_keep hJ (hP.r) [62, 63, 64, 65, 66, 67, 68, 69, 70, 71, 72, 73] [0, 1, 2, 3, 4, 5, 6, 7, 8, 9, 10, 11, 12, 13] rfl hec (by decide) (by decide) hk1))
  generalize H1 = H at hP hS ⊢
  refine lv_aload_n hx hb dL_law_486 rfl (lv_at hl 2 rfl) ?_
  refine lv_aload_n hx hb dL_law_487 rfl (lv_at hl 0 rfl) ?_
  refine lv_iload_n hx hb dL_law_488 rfl (lv_at hl 3 rfl) ?_
  refine lv_iconst (v := 1) hx hb dL_law_489 (by decide) ?_
  refine lv_iadd hx hb dL_law_490 ?_
  obtain ⟨hi4, hf⟩ := gi_e hf
  refine va_sld hx hb hX hbl hbA hS hi4 dL_law_491 ?_
  refine lv_aload_n hx hb dL_law_492 rfl (lv_at hl 0 rfl) ?_
  refine lv_iload_n hx hb dL_law_493 rfl (lv_at hl 3 rfl) ?_
  refine lv_iconst (v := 2) hx hb dL_law_494 (by decide) ?_
  refine lv_iadd hx hb dL_law_495 ?_
  obtain ⟨hi5, hf⟩ := gi_e hf
  refine va_sld hx hb hX hbl hbA hS hi5 dL_law_496 ?_
  refine lv_aload_n hx hb dL_law_497 rfl (lv_at hl 0 rfl) ?_
  refine lv_iload_n hx hb dL_law_498 rfl (lv_at hl 3 rfl) ?_
  refine lv_iconst (v := 3) hx hb dL_law_499 (by decide) ?_
  refine lv_iadd hx hb dL_law_500 ?_
  obtain ⟨hi6, hf⟩ := gi_e hf
  refine va_sld hx hb hX hbl hbA hS hi6 dL_law_501 ?_
  obtain ⟨r502, hr502, hf⟩ := bn_e hf
  have hPc : va_P (dC, dI) vwCl (wM cs a M) _ := hP.r
  have hec : ((wM cs a M)).map Prod.fst = ([62, 63, 64, 65, 66, 67, 68, 69, 70, 71, 72, 73] : List Nat).map (adr g a) := rfl
  have hDc := vD_adr hJ [62, 63, 64, 65, 66, 67, 68, 69, 70, 71, 72, 73] (by decide) (by decide) hec
  have hFc := vF_adr hDc hS hA
  refine va_calli (va_runV (As := [.int ((xs ((x3 + (1 : Int32))).toNatClampNeg)), .int ((xs ((x3 + (2 : Int32))).toNatClampNeg)), .int ((xs ((x3 + (3 : Int32))).toNatClampNeg))]) (rest := [.int (r483.1)]) C (c_X8_sell l dC dI cs a H.size M (xs ((x3 + (1 : Int32))).toNatClampNeg) (xs ((x3 + (2 : Int32))).toNatClampNeg) (xs ((x3 + (3 : Int32))).toNatClampNeg) r502 hr502) (cwV 3 hts gL_law_X8_sell rfl rfl rfl (by decide +kernel) ⟨Nat.le_of_ble_eq_true rfl, Nat.le_of_ble_eq_true rfl⟩) ⟨(fun a U g mk q => ⟨q.1, q.2.1, q.2.2.1, GE.calling q.2.2.2.1, q.2.2.2.2⟩), va_recv hK hPc (ci := 8) (q0 := 0) rfl rfl, (fun U hU hW => ⟨rfl, by rw [hU], by rw [hU]; exact hPc, GE.warm hW G, hDc.weaken (fun _ _ _ _ => trivial)⟩)⟩ rfl rfl hl.1 rfl (lv_room (Nat.le_of_ble_eq_true rfl)) dL_law_502 ⟨Nat.le_of_ble_eq_true rfl, Nat.le_of_ble_eq_true rfl⟩) hS (fun q _ h => hFc q h) hFc (fun q u t H1 locs ht hvm hw hB hz1 hk1 hS => ?_)
  obtain ⟨rfl, rfl⟩ := hw
  obtain ⟨hP1, -⟩ := hB
  rw [ht] at hP1
  have hP : va_P (dC, dI) vwCl (wAll cs g a r483.2.1 r483.2.2.1 r483.2.2.2 I1 T1 P1 I2 T2 P2 X R L K r502.2) H1 := (((((((((((((((vP_keep hJ (hP.l.l.l.l.l.l.l.l.l.l.l.l.l.l) [0] [62, 63, 64, 65, 66, 67, 68, 69, 70, 71, 72, 73] rfl hec (by decide) (by decide) hk1)).app ((vP_keep hJ (hP.l.l.l.l.l.l.l.l.l.l.l.l.l.r) [1, 2, 3, 4, 5, 6, 7, 8, 9, 10, 11] [62, 63, 64, 65, 66, 67, 68, 69, 70, 71, 72, 73] rfl hec (by decide) (by decide) hk1))).app ((vP_keep hJ (hP.l.l.l.l.l.l.l.l.l.l.l.l.r) [12, 13] [62, 63, 64, 65, 66, 67, 68, 69, 70, 71, 72, 73] rfl hec (by decide) (by decide) hk1))).app ((vP_keep hJ (hP.l.l.l.l.l.l.l.l.l.l.l.r) [14] [62, 63, 64, 65, 66, 67, 68, 69, 70, 71, 72, 73] rfl hec (by decide) (by decide) hk1))).app ((vP_keep hJ (hP.l.l.l.l.l.l.l.l.l.l.r) [15, 16, 17, 18, 19, 20, 21, 22, 23, 24, 25] [62, 63, 64, 65, 66, 67, 68, 69, 70, 71, 72, 73] rfl hec (by decide) (by decide) hk1))).app ((vP_keep hJ (hP.l.l.l.l.l.l.l.l.l.r) [26, 27] [62, 63, 64, 65, 66, 67, 68, 69, 70, 71, 72, 73] rfl hec (by decide) (by decide) hk1))).app ((vP_keep hJ (hP.l.l.l.l.l.l.l.l.r) [28] [62, 63, 64, 65, 66, 67, 68, 69, 70, 71, 72, 73] rfl hec (by decide) (by decide) hk1))).app ((vP_keep hJ (hP.l.l.l.l.l.l.l.r) [29, 30, 31, 32, 33, 34, 35, 36, 37, 38, 39] [62, 63, 64, 65, 66, 67, 68, 69, 70, 71, 72, 73] rfl hec (by decide) (by decide) hk1))).app ((vP_keep hJ (hP.l.l.l.l.l.l.r) [40, 41] [62, 63, 64, 65, 66, 67, 68, 69, 70, 71, 72, 73] rfl hec (by decide) (by decide) hk1))).app ((vP_keep hJ (hP.l.l.l.l.l.r) [42, 43] [62, 63, 64, 65, 66, 67, 68, 69, 70, 71, 72, 73] rfl hec (by decide) (by decide) hk1))).app ((vP_keep hJ (hP.l.l.l.l.r) [44] [62, 63, 64, 65, 66, 67, 68, 69, 70, 71, 72, 73] rfl hec (by decide) (by decide) hk1))).app ((vP_keep hJ (hP.l.l.l.r) [45, 46, 47, 48, 49, 50, 51, 52, 53, 54, 55] [62, 63, 64, 65, 66, 67, 68, 69, 70, 71, 72, 73] rfl hec (by decide) (by decide) hk1))).app ((vP_keep hJ (hP.l.l.r) [56, 57, 58, 59] [62, 63, 64, 65, 66, 67, 68, 69, 70, 71, 72, 73] rfl hec (by decide) (by decide) hk1))).app ((vP_keep hJ (hP.l.r) [60, 61] [62, 63, 64, 65, 66, 67, 68, 69, 70, 71, 72, 73] rfl hec (by decide) (by decide) hk1))).app (hP1)
  generalize H1 = H at hP hS ⊢
  refine lv_icmp_eq (tgt := 1128) hx hb dL_law_505 (by decide) (fun c7 => ?_) (fun c7 => ?_)
  · replace hf := it_t c7 hf
    exact b_L_law_1128 C G hX hbl hbA hE hJ hA hR x3 r483.2.1 r483.2.2.1 r483.2.2.2 I1 T1 P1 I2 T2 P2 X R L K r502.2 hK18 _ _ _ (lv_sub hl [0, 1, 2, 3] rfl) hP hS hf
  · replace hf := it_f c7 hf
    refine lv_iconst (v := 0) hx hb dL_law_508 (by decide) ?_
    exact hR _ _ _ _ _ dL_law_509 hf hS
def f_L_law_510 (Ls : Nat) (xs : Nat → Int32) (x3 : Int32) (B : Nat → Int32) (N : Tw) (P : Ps) (I1 : Int32) (T1 : Tw) (P1 : Ps) (I2 : Int32) (T2 : Tw) (P2 : Ps) (X : Tx) (R : Tw) (L : Wl) (K : Ch) (M : Ms) (K18 : Int32 → (Nat → Int32) → Tw → Ps → Int32 → Tw → Ps → Int32 → Tw → Ps → Tx → Tw → Wl → Ch → Ms → Option Int32) : Option Int32 :=
  bn (f_X7_undo B N P) fun r511 =>
  bn (f_X8_undo M) fun r515 =>
  if r511.1 = r515.1 then (
    f_L_law_1128 Ls xs x3 r511.2.1 r511.2.2.1 r511.2.2.2 I1 T1 P1 I2 T2 P2 X R L K r515.2 K18
  ) else (
    some (0 : Int32)
  )
set_option maxHeartbeats 4000000 in
set_option maxRecDepth 100000 in
theorem b_L_law_510 {p : Program} {l : Launch} {e : Env} {s : State} {m : MethodId} {args : Array Value} {below : List Frame} {meth : Method} {c : Code} {Q : State → Prop} {dC : Nat → ClassId} {dI : Nat → Nat → Nat} {cs : Nat → ClassId} {A : Nat → Prop} {g : Nat → Nat} {adK : Nat → Nat} {adV : Nat → Nat} {b : Nat} {a : Nat → Nat} {Ls : Nat} {xs : Nat → Int32} {res : Int32} (C : CallFix p m c cL_law 4 s args wsL_law RL) (G : GE dC dI cs s) (hX : va_X b Ls xs s s.heap) (hbl : b < s.heap.size) (hbA : ¬ A b) (hE : SE adK adV A s s.heap) (hJ : adI A (adr g a) 74) (hA : ∀ q : Nat, s.heap.size ≤ q → A q) (hR : RTw p l e s m args below meth c Q A res) (x3 : Int32) (B : Nat → Int32) (N : Tw) (P : Ps) (I1 : Int32) (T1 : Tw) (P1 : Ps) (I2 : Int32) (T2 : Tw) (P2 : Ps) (X : Tx) (R : Tw) (L : Wl) (K : Ch) (M : Ms) {K18 : Int32 → (Nat → Int32) → Tw → Ps → Int32 → Tw → Ps → Int32 → Tw → Ps → Tx → Tw → Wl → Ch → Ms → Option Int32} (hK18 : ∀ (x3 : Int32) (B : Nat → Int32) (N : Tw) (P : Ps) (I1 : Int32) (T1 : Tw) (P1 : Ps) (I2 : Int32) (T2 : Tw) (P2 : Ps) (X : Tx) (R : Tw) (L : Wl) (K : Ch) (M : Ms) (H : Heap) (locs : List Loc) (ls : Array Slot), lv_has ls 4 [(0, .ref b), (1, .ref (g 0)), (2, .ref (a 0)), (3, .int (x3))] → va_P (dC, dI) vwCl (wAll cs g a B N P I1 T1 P1 I2 T2 P2 X R L K M) H → va_S A s.heap H locs → K18 x3 B N P I1 T1 P1 I2 T2 P2 X R L K M = some res → W p l e room_1 s m args below meth c H locs 74 3434 Q (F0 m 18 ls [])) (H : Heap) (locs : List Loc) (ls : Array Slot) (hl : lv_has ls 4 [(0, .ref b), (1, .ref (g 0)), (2, .ref (a 0)), (3, .int (x3))]) (hP : va_P (dC, dI) vwCl (wAll cs g a B N P I1 T1 P1 I2 T2 P2 X R L K M) H) (hS : va_S A s.heap H locs) (hf : f_L_law_510 Ls xs x3 B N P I1 T1 P1 I2 T2 P2 X R L K M K18 = some res) : W p l e room_1 s m args below meth c H locs 74 3434 Q (F0 m 510 ls []) := by
  obtain ⟨hx, hb, hml, hown, hts⟩ := id C
  obtain ⟨hK, hN⟩ := id G
  unfold f_L_law_510 at hf
  refine lv_aload_n hx hb dL_law_510 rfl (lv_at hl 1 rfl) ?_
  obtain ⟨r511, hr511, hf⟩ := bn_e hf
  have hPc : va_P (dC, dI) vwCl (wB g B ++ wT cs (fun i => g (1 + i)) N ++ wP cs (fun i => g (12 + i)) P) _ := ((hP.l.l.l.l.l.l.l.l.l.l.l.l.l.l).app (hP.l.l.l.l.l.l.l.l.l.l.l.l.l.r)).app (hP.l.l.l.l.l.l.l.l.l.l.l.l.r)
  have hec : ((wB g B ++ wT cs (fun i => g (1 + i)) N ++ wP cs (fun i => g (12 + i)) P)).map Prod.fst = ([0, 1, 2, 3, 4, 5, 6, 7, 8, 9, 10, 11, 12, 13] : List Nat).map (adr g a) := rfl
  have hDc := vD_adr hJ [0, 1, 2, 3, 4, 5, 6, 7, 8, 9, 10, 11, 12, 13] (by decide) (by decide) hec
  have hFc := vF_adr hDc hS hA
  refine va_calli (va_runV (As := []) (rest := []) C (c_X7_undo l dC dI cs g H.size B N P r511 hr511) (cwV 0 hts gL_law_X7_undo rfl rfl rfl (by decide +kernel) ⟨Nat.le_of_ble_eq_true rfl, Nat.le_of_ble_eq_true rfl⟩) ⟨(fun a U g mk q => ⟨q.1, q.2.1, q.2.2.1, GE.calling q.2.2.2.1, q.2.2.2.2⟩), va_recv hK hPc (ci := 7) (q0 := 0) rfl rfl, (fun U hU hW => ⟨rfl, by rw [hU], by rw [hU]; exact hPc, GE.warm hW G, hDc.weaken (fun _ _ _ _ => trivial)⟩)⟩ rfl rfl hl.1 rfl (lv_room (Nat.le_of_ble_eq_true rfl)) dL_law_511 ⟨Nat.le_of_ble_eq_true rfl, Nat.le_of_ble_eq_true rfl⟩) hS (fun q _ h => hFc q h) hFc (fun q u t H1 locs ht hvm hw hB hz1 hk1 hS => ?_)
  obtain ⟨rfl, rfl⟩ := hw
  obtain ⟨hP1, -⟩ := hB
  rw [ht] at hP1
  have hP : va_P (dC, dI) vwCl (wAll cs g a r511.2.1 r511.2.2.1 r511.2.2.2 I1 T1 P1 I2 T2 P2 X R L K M) H1 := ((((((((((((((hP1.l.l).app (hP1.l.r)).app (hP1.r)).app ((vP_keep hJ (hP.l.l.l.l.l.l.l.l.l.l.l.r) [14] [0, 1, 2, 3, 4, 5, 6, 7, 8, 9, 10, 11, 12, 13] rfl hec (by decide) (by decide) hk1))).app ((vP_keep hJ (hP.l.l.l.l.l.l.l.l.l.l.r) [15, 16, 17, 18, 19, 20, 21, 22, 23, 24, 25] [0, 1, 2, 3, 4, 5, 6, 7, 8, 9, 10, 11, 12, 13] rfl hec (by decide) (by decide) hk1))).app ((vP_keep hJ (hP.l.l.l.l.l.l.l.l.l.r) [26, 27] [0, 1, 2, 3, 4, 5, 6, 7, 8, 9, 10, 11, 12, 13] rfl hec (by decide) (by decide) hk1))).app ((vP_keep hJ (hP.l.l.l.l.l.l.l.l.r) [28] [0, 1, 2, 3, 4, 5, 6, 7, 8, 9, 10, 11, 12, 13] rfl hec (by decide) (by decide) hk1))).app ((vP_keep hJ (hP.l.l.l.l.l.l.l.r) [29, 30, 31, 32, 33, 34, 35, 36, 37, 38, 39] [0, 1, 2, 3, 4, 5, 6, 7, 8, 9, 10, 11, 12, 13] rfl hec (by decide) (by decide) hk1))).app ((vP_keep hJ (hP.l.l.l.l.l.l.r) [40, 41] [0, 1, 2, 3, 4, 5, 6, 7, 8, 9, 10, 11, 12, 13] rfl hec (by decide) (by decide) hk1))).app ((vP_keep hJ (hP.l.l.l.l.l.r) [42, 43] [0, 1, 2, 3, 4, 5, 6, 7, 8, 9, 10, 11, 12, 13] rfl hec (by decide) (by decide) hk1))).app ((vP_keep hJ (hP.l.l.l.l.r) [44] [0, 1, 2, 3, 4, 5, 6, 7, 8, 9, 10, 11, 12, 13] rfl hec (by decide) (by decide) hk1))).app ((vP_keep hJ (hP.l.l.l.r) [45, 46, 47, 48, 49, 50, 51, 52, 53, 54, 55] [0, 1, 2, 3, 4, 5, 6, 7, 8, 9, 10, 11, 12, 13] rfl hec (by decide) (by decide) hk1))).app ((vP_keep hJ (hP.l.l.r) [56, 57, 58, 59] [0, 1, 2, 3, 4, 5, 6, 7, 8, 9, 10, 11, 12, 13] rfl hec (by decide) (by decide) hk1))).app ((vP_keep hJ (hP.l.r) [60, 61] [0, 1, 2, 3, 4, 5, 6, 7, 8, 9, 10, 11, 12, 13] rfl hec (by decide) (by decide) hk1))).app ((vP_keep hJ (hP.r) [62, 63, 64, 65, 66, 67, 68, 69, 70, 71, 72, 73] [0, 1, 2, 3, 4, 5, 6, 7, 8, 9, 10, 11, 12, 13] rfl hec (by decide) (by decide) hk1))
  generalize H1 = H at hP hS ⊢
  refine lv_aload_n hx hb dL_law_514 rfl (lv_at hl 2 rfl) ?_
  obtain ⟨r515, hr515, hf⟩ := bn_e hf
  have hPc : va_P (dC, dI) vwCl (wM cs a M) _ := hP.r
  have hec : ((wM cs a M)).map Prod.fst = ([62, 63, 64, 65, 66, 67, 68, 69, 70, 71, 72, 73] : List Nat).map (adr g a) := rfl
  have hDc := vD_adr hJ [62, 63, 64, 65, 66, 67, 68, 69, 70, 71, 72, 73] (by decide) (by decide) hec
  have hFc := vF_adr hDc hS hA
  refine va_calli (va_runV (As := []) (rest := [.int (r511.1)]) C (c_X8_undo l dC dI cs a H.size M r515 hr515) (cwV 0 hts gL_law_X8_undo rfl rfl rfl (by decide +kernel) ⟨Nat.le_of_ble_eq_true rfl, Nat.le_of_ble_eq_true rfl⟩) ⟨(fun a U g mk q => ⟨q.1, q.2.1, q.2.2.1, GE.calling q.2.2.2.1, q.2.2.2.2⟩), va_recv hK hPc (ci := 8) (q0 := 0) rfl rfl, (fun U hU hW => ⟨rfl, by rw [hU], by rw [hU]; exact hPc, GE.warm hW G, hDc.weaken (fun _ _ _ _ => trivial)⟩)⟩ rfl rfl hl.1 rfl (lv_room (Nat.le_of_ble_eq_true rfl)) dL_law_515 ⟨Nat.le_of_ble_eq_true rfl, Nat.le_of_ble_eq_true rfl⟩) hS (fun q _ h => hFc q h) hFc (fun q u t H1 locs ht hvm hw hB hz1 hk1 hS => ?_)
  obtain ⟨rfl, rfl⟩ := hw
  obtain ⟨hP1, -⟩ := hB
  rw [ht] at hP1
  have hP : va_P (dC, dI) vwCl (wAll cs g a r511.2.1 r511.2.2.1 r511.2.2.2 I1 T1 P1 I2 T2 P2 X R L K r515.2) H1 := (((((((((((((((vP_keep hJ (hP.l.l.l.l.l.l.l.l.l.l.l.l.l.l) [0] [62, 63, 64, 65, 66, 67, 68, 69, 70, 71, 72, 73] rfl hec (by decide) (by decide) hk1)).app ((vP_keep hJ (hP.l.l.l.l.l.l.l.l.l.l.l.l.l.r) [1, 2, 3, 4, 5, 6, 7, 8, 9, 10, 11] [62, 63, 64, 65, 66, 67, 68, 69, 70, 71, 72, 73] rfl hec (by decide) (by decide) hk1))).app ((vP_keep hJ (hP.l.l.l.l.l.l.l.l.l.l.l.l.r) [12, 13] [62, 63, 64, 65, 66, 67, 68, 69, 70, 71, 72, 73] rfl hec (by decide) (by decide) hk1))).app ((vP_keep hJ (hP.l.l.l.l.l.l.l.l.l.l.l.r) [14] [62, 63, 64, 65, 66, 67, 68, 69, 70, 71, 72, 73] rfl hec (by decide) (by decide) hk1))).app ((vP_keep hJ (hP.l.l.l.l.l.l.l.l.l.l.r) [15, 16, 17, 18, 19, 20, 21, 22, 23, 24, 25] [62, 63, 64, 65, 66, 67, 68, 69, 70, 71, 72, 73] rfl hec (by decide) (by decide) hk1))).app ((vP_keep hJ (hP.l.l.l.l.l.l.l.l.l.r) [26, 27] [62, 63, 64, 65, 66, 67, 68, 69, 70, 71, 72, 73] rfl hec (by decide) (by decide) hk1))).app ((vP_keep hJ (hP.l.l.l.l.l.l.l.l.r) [28] [62, 63, 64, 65, 66, 67, 68, 69, 70, 71, 72, 73] rfl hec (by decide) (by decide) hk1))).app ((vP_keep hJ (hP.l.l.l.l.l.l.l.r) [29, 30, 31, 32, 33, 34, 35, 36, 37, 38, 39] [62, 63, 64, 65, 66, 67, 68, 69, 70, 71, 72, 73] rfl hec (by decide) (by decide) hk1))).app ((vP_keep hJ (hP.l.l.l.l.l.l.r) [40, 41] [62, 63, 64, 65, 66, 67, 68, 69, 70, 71, 72, 73] rfl hec (by decide) (by decide) hk1))).app ((vP_keep hJ (hP.l.l.l.l.l.r) [42, 43] [62, 63, 64, 65, 66, 67, 68, 69, 70, 71, 72, 73] rfl hec (by decide) (by decide) hk1))).app ((vP_keep hJ (hP.l.l.l.l.r) [44] [62, 63, 64, 65, 66, 67, 68, 69, 70, 71, 72, 73] rfl hec (by decide) (by decide) hk1))).app ((vP_keep hJ (hP.l.l.l.r) [45, 46, 47, 48, 49, 50, 51, 52, 53, 54, 55] [62, 63, 64, 65, 66, 67, 68, 69, 70, 71, 72, 73] rfl hec (by decide) (by decide) hk1))).app ((vP_keep hJ (hP.l.l.r) [56, 57, 58, 59] [62, 63, 64, 65, 66, 67, 68, 69, 70, 71, 72, 73] rfl hec (by decide) (by decide) hk1))).app ((vP_keep hJ (hP.l.r) [60, 61] [62, 63, 64, 65, 66, 67, 68, 69, 70, 71, 72, 73] rfl hec (by decide) (by decide) hk1))).app (hP1)
  generalize H1 = H at hP hS ⊢
  refine lv_icmp_eq (tgt := 1128) hx hb dL_law_518 (by decide) (fun c1 => ?_) (fun c1 => ?_)
  · replace hf := it_t c1 hf
    exact b_L_law_1128 C G hX hbl hbA hE hJ hA hR x3 r511.2.1 r511.2.2.1 r511.2.2.2 I1 T1 P1 I2 T2 P2 X R L K r515.2 hK18 _ _ _ (lv_sub hl [0, 1, 2, 3] rfl) hP hS hf
  · replace hf := it_f c1 hf
    refine lv_iconst (v := 0) hx hb dL_law_521 (by decide) ?_
    exact hR _ _ _ _ _ dL_law_522 hf hS
def f_L_law_523 (Ls : Nat) (xs : Nat → Int32) (x3 : Int32) (B : Nat → Int32) (N : Tw) (P : Ps) (I1 : Int32) (T1 : Tw) (P1 : Ps) (I2 : Int32) (T2 : Tw) (P2 : Ps) (X : Tx) (R : Tw) (L : Wl) (K : Ch) (M : Ms) (K18 : Int32 → (Nat → Int32) → Tw → Ps → Int32 → Tw → Ps → Int32 → Tw → Ps → Tx → Tw → Wl → Ch → Ms → Option Int32) : Option Int32 :=
  gi ((x3 + (1 : Int32))) Ls <|
  gi ((x3 + (2 : Int32))) Ls <|
  bn (f_X7_whose (xs ((x3 + (1 : Int32))).toNatClampNeg) (xs ((x3 + (2 : Int32))).toNatClampNeg) B N) fun r534 =>
  gi ((x3 + (1 : Int32))) Ls <|
  gi ((x3 + (2 : Int32))) Ls <|
  bn (f_X8_whose (xs ((x3 + (1 : Int32))).toNatClampNeg) (xs ((x3 + (2 : Int32))).toNatClampNeg) M) fun r548 =>
  if r534.1 = r548.1 then (
    f_L_law_1128 Ls xs x3 r534.2 N P I1 T1 P1 I2 T2 P2 X R L K r548.2 K18
  ) else (
    some (0 : Int32)
  )
set_option maxHeartbeats 4000000 in
set_option maxRecDepth 100000 in
theorem b_L_law_523 {p : Program} {l : Launch} {e : Env} {s : State} {m : MethodId} {args : Array Value} {below : List Frame} {meth : Method} {c : Code} {Q : State → Prop} {dC : Nat → ClassId} {dI : Nat → Nat → Nat} {cs : Nat → ClassId} {A : Nat → Prop} {g : Nat → Nat} {adK : Nat → Nat} {adV : Nat → Nat} {b : Nat} {a : Nat → Nat} {Ls : Nat} {xs : Nat → Int32} {res : Int32} (C : CallFix p m c cL_law 4 s args wsL_law RL) (G : GE dC dI cs s) (hX : va_X b Ls xs s s.heap) (hbl : b < s.heap.size) (hbA : ¬ A b) (hE : SE adK adV A s s.heap) (hJ : adI A (adr g a) 74) (hA : ∀ q : Nat, s.heap.size ≤ q → A q) (hR : RTw p l e s m args below meth c Q A res) (x3 : Int32) (B : Nat → Int32) (N : Tw) (P : Ps) (I1 : Int32) (T1 : Tw) (P1 : Ps) (I2 : Int32) (T2 : Tw) (P2 : Ps) (X : Tx) (R : Tw) (L : Wl) (K : Ch) (M : Ms) {K18 : Int32 → (Nat → Int32) → Tw → Ps → Int32 → Tw → Ps → Int32 → Tw → Ps → Tx → Tw → Wl → Ch → Ms → Option Int32} (hK18 : ∀ (x3 : Int32) (B : Nat → Int32) (N : Tw) (P : Ps) (I1 : Int32) (T1 : Tw) (P1 : Ps) (I2 : Int32) (T2 : Tw) (P2 : Ps) (X : Tx) (R : Tw) (L : Wl) (K : Ch) (M : Ms) (H : Heap) (locs : List Loc) (ls : Array Slot), lv_has ls 4 [(0, .ref b), (1, .ref (g 0)), (2, .ref (a 0)), (3, .int (x3))] → va_P (dC, dI) vwCl (wAll cs g a B N P I1 T1 P1 I2 T2 P2 X R L K M) H → va_S A s.heap H locs → K18 x3 B N P I1 T1 P1 I2 T2 P2 X R L K M = some res → W p l e room_1 s m args below meth c H locs 74 3434 Q (F0 m 18 ls [])) (H : Heap) (locs : List Loc) (ls : Array Slot) (hl : lv_has ls 4 [(0, .ref b), (1, .ref (g 0)), (2, .ref (a 0)), (3, .int (x3))]) (hP : va_P (dC, dI) vwCl (wAll cs g a B N P I1 T1 P1 I2 T2 P2 X R L K M) H) (hS : va_S A s.heap H locs) (hf : f_L_law_523 Ls xs x3 B N P I1 T1 P1 I2 T2 P2 X R L K M K18 = some res) : W p l e room_1 s m args below meth c H locs 74 3434 Q (F0 m 523 ls []) := by
  obtain ⟨hx, hb, hml, hown, hts⟩ := id C
  obtain ⟨hK, hN⟩ := id G
  unfold f_L_law_523 at hf
  refine lv_aload_n hx hb dL_law_523 rfl (lv_at hl 1 rfl) ?_
  refine lv_aload_n hx hb dL_law_524 rfl (lv_at hl 0 rfl) ?_
  refine lv_iload_n hx hb dL_law_525 rfl (lv_at hl 3 rfl) ?_
  refine lv_iconst (v := 1) hx hb dL_law_526 (by decide) ?_
  refine lv_iadd hx hb dL_law_527 ?_
  obtain ⟨hi1, hf⟩ := gi_e hf
  refine va_sld hx hb hX hbl hbA hS hi1 dL_law_528 ?_
  refine lv_aload_n hx hb dL_law_529 rfl (lv_at hl 0 rfl) ?_
  refine lv_iload_n hx hb dL_law_530 rfl (lv_at hl 3 rfl) ?_
  refine lv_iconst (v := 2) hx hb dL_law_531 (by decide) ?_
  refine lv_iadd hx hb dL_law_532 ?_
  obtain ⟨hi2, hf⟩ := gi_e hf
  refine va_sld hx hb hX hbl hbA hS hi2 dL_law_533 ?_
  obtain ⟨r534, hr534, hf⟩ := bn_e hf
  have hPc : va_P (dC, dI) vwCl (wB g B ++ wT cs (fun i => g (1 + i)) N) _ := (hP.l.l.l.l.l.l.l.l.l.l.l.l.l.l).app (hP.l.l.l.l.l.l.l.l.l.l.l.l.l.r)
  have hec : ((wB g B ++ wT cs (fun i => g (1 + i)) N)).map Prod.fst = ([0, 1, 2, 3, 4, 5, 6, 7, 8, 9, 10, 11] : List Nat).map (adr g a) := rfl
  have hDc := vD_adr hJ [0, 1, 2, 3, 4, 5, 6, 7, 8, 9, 10, 11] (by decide) (by decide) hec
  have hFc := vF_adr hDc hS hA
  refine va_calli (va_runV (As := [.int ((xs ((x3 + (1 : Int32))).toNatClampNeg)), .int ((xs ((x3 + (2 : Int32))).toNatClampNeg))]) (rest := []) C (c_X7_whose l dC dI cs g H.size B N (xs ((x3 + (1 : Int32))).toNatClampNeg) (xs ((x3 + (2 : Int32))).toNatClampNeg) r534 hr534) (cwV 2 hts gL_law_X7_whose rfl rfl rfl (by decide +kernel) ⟨Nat.le_of_ble_eq_true rfl, Nat.le_of_ble_eq_true rfl⟩) ⟨(fun a U g mk q => ⟨q.1, q.2.1, q.2.2.1, GE.calling q.2.2.2.1, q.2.2.2.2⟩), va_recv hK hPc (ci := 7) (q0 := 0) rfl rfl, (fun U hU hW => ⟨rfl, by rw [hU], by rw [hU]; exact hPc, GE.warm hW G, hDc.weaken (fun _ _ _ _ => trivial)⟩)⟩ rfl rfl hl.1 rfl (lv_room (Nat.le_of_ble_eq_true rfl)) dL_law_534 ⟨Nat.le_of_ble_eq_true rfl, Nat.le_of_ble_eq_true rfl⟩) hS (fun q _ h => hFc q h) hFc (fun q u t H1 locs ht hvm hw hB hz1 hk1 hS => ?_)
  obtain ⟨rfl, rfl⟩ := hw
  obtain ⟨hP1, -⟩ := hB
  rw [ht] at hP1
  have hP : va_P (dC, dI) vwCl (wAll cs g a r534.2 N P I1 T1 P1 I2 T2 P2 X R L K M) H1 := ((((((((((((((hP1.l).app (hP1.r)).app ((vP_keep hJ (hP.l.l.l.l.l.l.l.l.l.l.l.l.r) [12, 13] [0, 1, 2, 3, 4, 5, 6, 7, 8, 9, 10, 11] rfl hec (by decide) (by decide) hk1))).app ((vP_keep hJ (hP.l.l.l.l.l.l.l.l.l.l.l.r) [14] [0, 1, 2, 3, 4, 5, 6, 7, 8, 9, 10, 11] rfl hec (by decide) (by decide) hk1))).app ((vP_keep hJ (hP.l.l.l.l.l.l.l.l.l.l.r) [15, 16, 17, 18, 19, 20, 21, 22, 23, 24, 25] [0, 1, 2, 3, 4, 5, 6, 7, 8, 9, 10, 11] rfl hec (by decide) (by decide) hk1))).app ((vP_keep hJ (hP.l.l.l.l.l.l.l.l.l.r) [26, 27] [0, 1, 2, 3, 4, 5, 6, 7, 8, 9, 10, 11] rfl hec (by decide) (by decide) hk1))).app ((vP_keep hJ (hP.l.l.l.l.l.l.l.l.r) [28] [0, 1, 2, 3, 4, 5, 6, 7, 8, 9, 10, 11] rfl hec (by decide) (by decide) hk1))).app ((vP_keep hJ (hP.l.l.l.l.l.l.l.r) [29, 30, 31, 32, 33, 34, 35, 36, 37, 38, 39] [0, 1, 2, 3, 4, 5, 6, 7, 8, 9, 10, 11] rfl hec (by decide) (by decide) hk1))).app ((vP_keep hJ (hP.l.l.l.l.l.l.r) [40, 41] [0, 1, 2, 3, 4, 5, 6, 7, 8, 9, 10, 11] rfl hec (by decide) (by decide) hk1))).app ((vP_keep hJ (hP.l.l.l.l.l.r) [42, 43] [0, 1, 2, 3, 4, 5, 6, 7, 8, 9, 10, 11] rfl hec (by decide) (by decide) hk1))).app ((vP_keep hJ (hP.l.l.l.l.r) [44] [0, 1, 2, 3, 4, 5, 6, 7, 8, 9, 10, 11] rfl hec (by decide) (by decide) hk1))).app ((vP_keep hJ (hP.l.l.l.r) [45, 46, 47, 48, 49, 50, 51, 52, 53, 54, 55] [0, 1, 2, 3, 4, 5, 6, 7, 8, 9, 10, 11] rfl hec (by decide) (by decide) hk1))).app ((vP_keep hJ (hP.l.l.r) [56, 57, 58, 59] [0, 1, 2, 3, 4, 5, 6, 7, 8, 9, 10, 11] rfl hec (by decide) (by decide) hk1))).app ((vP_keep hJ (hP.l.r) [60, 61] [0, 1, 2, 3, 4, 5, 6, 7, 8, 9, 10, 11] rfl hec (by decide) (by decide) hk1))).app ((vP_keep hJ (hP.r) [62, 63, 64, 65, 66, 67, 68, 69, 70, 71, 72, 73] [0, 1, 2, 3, 4, 5, 6, 7, 8, 9, 10, 11] rfl hec (by decide) (by decide) hk1))
  generalize H1 = H at hP hS ⊢
  refine lv_aload_n hx hb dL_law_537 rfl (lv_at hl 2 rfl) ?_
  refine lv_aload_n hx hb dL_law_538 rfl (lv_at hl 0 rfl) ?_
  refine lv_iload_n hx hb dL_law_539 rfl (lv_at hl 3 rfl) ?_
  refine lv_iconst (v := 1) hx hb dL_law_540 (by decide) ?_
  refine lv_iadd hx hb dL_law_541 ?_
  obtain ⟨hi3, hf⟩ := gi_e hf
  refine va_sld hx hb hX hbl hbA hS hi3 dL_law_542 ?_
  refine lv_aload_n hx hb dL_law_543 rfl (lv_at hl 0 rfl) ?_
  refine lv_iload_n hx hb dL_law_544 rfl (lv_at hl 3 rfl) ?_
  refine lv_iconst (v := 2) hx hb dL_law_545 (by decide) ?_
  refine lv_iadd hx hb dL_law_546 ?_
  obtain ⟨hi4, hf⟩ := gi_e hf
  refine va_sld hx hb hX hbl hbA hS hi4 dL_law_547 ?_
  obtain ⟨r548, hr548, hf⟩ := bn_e hf
  have hPc : va_P (dC, dI) vwCl (wM cs a M) _ := hP.r
  have hec : ((wM cs a M)).map Prod.fst = ([62, 63, 64, 65, 66, 67, 68, 69, 70, 71, 72, 73] : List Nat).map (adr g a) := rfl
  have hDc := vD_adr hJ [62, 63, 64, 65, 66, 67, 68, 69, 70, 71, 72, 73] (by decide) (by decide) hec
  have hFc := vF_adr hDc hS hA
  refine va_calli (va_runV (As := [.int ((xs ((x3 + (1 : Int32))).toNatClampNeg)), .int ((xs ((x3 + (2 : Int32))).toNatClampNeg))]) (rest := [.int (r534.1)]) C (c_X8_whose l dC dI cs a H.size M (xs ((x3 + (1 : Int32))).toNatClampNeg) (xs ((x3 + (2 : Int32))).toNatClampNeg) r548 hr548) (cwV 2 hts gL_law_X8_whose rfl rfl rfl (by decide +kernel) ⟨Nat.le_of_ble_eq_true rfl, Nat.le_of_ble_eq_true rfl⟩) ⟨(fun a U g mk q => ⟨q.1, q.2.1, q.2.2.1, GE.calling q.2.2.2.1, q.2.2.2.2⟩), va_recv hK hPc (ci := 8) (q0 := 0) rfl rfl, (fun U hU hW => ⟨rfl, by rw [hU], by rw [hU]; exact hPc, GE.warm hW G, hDc.weaken (fun _ _ _ _ => trivial)⟩)⟩ rfl rfl hl.1 rfl (lv_room (Nat.le_of_ble_eq_true rfl)) dL_law_548 ⟨Nat.le_of_ble_eq_true rfl, Nat.le_of_ble_eq_true rfl⟩) hS (fun q _ h => hFc q h) hFc (fun q u t H1 locs ht hvm hw hB hz1 hk1 hS => ?_)
  obtain ⟨rfl, rfl⟩ := hw
  obtain ⟨hP1, -⟩ := hB
  rw [ht] at hP1
  have hP : va_P (dC, dI) vwCl (wAll cs g a r534.2 N P I1 T1 P1 I2 T2 P2 X R L K r548.2) H1 := (((((((((((((((vP_keep hJ (hP.l.l.l.l.l.l.l.l.l.l.l.l.l.l) [0] [62, 63, 64, 65, 66, 67, 68, 69, 70, 71, 72, 73] rfl hec (by decide) (by decide) hk1)).app ((vP_keep hJ (hP.l.l.l.l.l.l.l.l.l.l.l.l.l.r) [1, 2, 3, 4, 5, 6, 7, 8, 9, 10, 11] [62, 63, 64, 65, 66, 67, 68, 69, 70, 71, 72, 73] rfl hec (by decide) (by decide) hk1))).app ((vP_keep hJ (hP.l.l.l.l.l.l.l.l.l.l.l.l.r) [12, 13] [62, 63, 64, 65, 66, 67, 68, 69, 70, 71, 72, 73] rfl hec (by decide) (by decide) hk1))).app ((vP_keep hJ (hP.l.l.l.l.l.l.l.l.l.l.l.r) [14] [62, 63, 64, 65, 66, 67, 68, 69, 70, 71, 72, 73] rfl hec (by decide) (by decide) hk1))).app ((vP_keep hJ (hP.l.l.l.l.l.l.l.l.l.l.r) [15, 16, 17, 18, 19, 20, 21, 22, 23, 24, 25] [62, 63, 64, 65, 66, 67, 68, 69, 70, 71, 72, 73] rfl hec (by decide) (by decide) hk1))).app ((vP_keep hJ (hP.l.l.l.l.l.l.l.l.l.r) [26, 27] [62, 63, 64, 65, 66, 67, 68, 69, 70, 71, 72, 73] rfl hec (by decide) (by decide) hk1))).app ((vP_keep hJ (hP.l.l.l.l.l.l.l.l.r) [28] [62, 63, 64, 65, 66, 67, 68, 69, 70, 71, 72, 73] rfl hec (by decide) (by decide) hk1))).app ((vP_keep hJ (hP.l.l.l.l.l.l.l.r) [29, 30, 31, 32, 33, 34, 35, 36, 37, 38, 39] [62, 63, 64, 65, 66, 67, 68, 69, 70, 71, 72, 73] rfl hec (by decide) (by decide) hk1))).app ((vP_keep hJ (hP.l.l.l.l.l.l.r) [40, 41] [62, 63, 64, 65, 66, 67, 68, 69, 70, 71, 72, 73] rfl hec (by decide) (by decide) hk1))).app ((vP_keep hJ (hP.l.l.l.l.l.r) [42, 43] [62, 63, 64, 65, 66, 67, 68, 69, 70, 71, 72, 73] rfl hec (by decide) (by decide) hk1))).app ((vP_keep hJ (hP.l.l.l.l.r) [44] [62, 63, 64, 65, 66, 67, 68, 69, 70, 71, 72, 73] rfl hec (by decide) (by decide) hk1))).app ((vP_keep hJ (hP.l.l.l.r) [45, 46, 47, 48, 49, 50, 51, 52, 53, 54, 55] [62, 63, 64, 65, 66, 67, 68, 69, 70, 71, 72, 73] rfl hec (by decide) (by decide) hk1))).app ((vP_keep hJ (hP.l.l.r) [56, 57, 58, 59] [62, 63, 64, 65, 66, 67, 68, 69, 70, 71, 72, 73] rfl hec (by decide) (by decide) hk1))).app ((vP_keep hJ (hP.l.r) [60, 61] [62, 63, 64, 65, 66, 67, 68, 69, 70, 71, 72, 73] rfl hec (by decide) (by decide) hk1))).app (hP1)
  generalize H1 = H at hP hS ⊢
  refine lv_icmp_eq (tgt := 1128) hx hb dL_law_551 (by decide) (fun c5 => ?_) (fun c5 => ?_)
  · replace hf := it_t c5 hf
    exact b_L_law_1128 C G hX hbl hbA hE hJ hA hR x3 r534.2 N P I1 T1 P1 I2 T2 P2 X R L K r548.2 hK18 _ _ _ (lv_sub hl [0, 1, 2, 3] rfl) hP hS hf
  · replace hf := it_f c5 hf
    refine lv_iconst (v := 0) hx hb dL_law_554 (by decide) ?_
    exact hR _ _ _ _ _ dL_law_555 hf hS
def f_L_law_556 (Ls : Nat) (xs : Nat → Int32) (x3 : Int32) (B : Nat → Int32) (N : Tw) (P : Ps) (I1 : Int32) (T1 : Tw) (P1 : Ps) (I2 : Int32) (T2 : Tw) (P2 : Ps) (X : Tx) (R : Tw) (L : Wl) (K : Ch) (M : Ms) (K18 : Int32 → (Nat → Int32) → Tw → Ps → Int32 → Tw → Ps → Int32 → Tw → Ps → Tx → Tw → Wl → Ch → Ms → Option Int32) : Option Int32 :=
  gi ((x3 + (1 : Int32))) Ls <|
  gi ((x3 + (2 : Int32))) Ls <|
  bn (f_X7_about (xs ((x3 + (1 : Int32))).toNatClampNeg) (xs ((x3 + (2 : Int32))).toNatClampNeg) B N) fun r567 =>
  gi ((x3 + (1 : Int32))) Ls <|
  gi ((x3 + (2 : Int32))) Ls <|
  bn (f_X8_about (xs ((x3 + (1 : Int32))).toNatClampNeg) (xs ((x3 + (2 : Int32))).toNatClampNeg) M) fun r581 =>
  if r567.1 = r581.1 then (
    f_L_law_1128 Ls xs x3 r567.2 N P I1 T1 P1 I2 T2 P2 X R L K r581.2 K18
  ) else (
    some (0 : Int32)
  )
set_option maxHeartbeats 4000000 in
set_option maxRecDepth 100000 in
theorem b_L_law_556 {p : Program} {l : Launch} {e : Env} {s : State} {m : MethodId} {args : Array Value} {below : List Frame} {meth : Method} {c : Code} {Q : State → Prop} {dC : Nat → ClassId} {dI : Nat → Nat → Nat} {cs : Nat → ClassId} {A : Nat → Prop} {g : Nat → Nat} {adK : Nat → Nat} {adV : Nat → Nat} {b : Nat} {a : Nat → Nat} {Ls : Nat} {xs : Nat → Int32} {res : Int32} (C : CallFix p m c cL_law 4 s args wsL_law RL) (G : GE dC dI cs s) (hX : va_X b Ls xs s s.heap) (hbl : b < s.heap.size) (hbA : ¬ A b) (hE : SE adK adV A s s.heap) (hJ : adI A (adr g a) 74) (hA : ∀ q : Nat, s.heap.size ≤ q → A q) (hR : RTw p l e s m args below meth c Q A res) (x3 : Int32) (B : Nat → Int32) (N : Tw) (P : Ps) (I1 : Int32) (T1 : Tw) (P1 : Ps) (I2 : Int32) (T2 : Tw) (P2 : Ps) (X : Tx) (R : Tw) (L : Wl) (K : Ch) (M : Ms) {K18 : Int32 → (Nat → Int32) → Tw → Ps → Int32 → Tw → Ps → Int32 → Tw → Ps → Tx → Tw → Wl → Ch → Ms → Option Int32} (hK18 : ∀ (x3 : Int32) (B : Nat → Int32) (N : Tw) (P : Ps) (I1 : Int32) (T1 : Tw) (P1 : Ps) (I2 : Int32) (T2 : Tw) (P2 : Ps) (X : Tx) (R : Tw) (L : Wl) (K : Ch) (M : Ms) (H : Heap) (locs : List Loc) (ls : Array Slot), lv_has ls 4 [(0, .ref b), (1, .ref (g 0)), (2, .ref (a 0)), (3, .int (x3))] → va_P (dC, dI) vwCl (wAll cs g a B N P I1 T1 P1 I2 T2 P2 X R L K M) H → va_S A s.heap H locs → K18 x3 B N P I1 T1 P1 I2 T2 P2 X R L K M = some res → W p l e room_1 s m args below meth c H locs 74 3434 Q (F0 m 18 ls [])) (H : Heap) (locs : List Loc) (ls : Array Slot) (hl : lv_has ls 4 [(0, .ref b), (1, .ref (g 0)), (2, .ref (a 0)), (3, .int (x3))]) (hP : va_P (dC, dI) vwCl (wAll cs g a B N P I1 T1 P1 I2 T2 P2 X R L K M) H) (hS : va_S A s.heap H locs) (hf : f_L_law_556 Ls xs x3 B N P I1 T1 P1 I2 T2 P2 X R L K M K18 = some res) : W p l e room_1 s m args below meth c H locs 74 3434 Q (F0 m 556 ls []) := by
  obtain ⟨hx, hb, hml, hown, hts⟩ := id C
  obtain ⟨hK, hN⟩ := id G
  unfold f_L_law_556 at hf
  refine lv_aload_n hx hb dL_law_556 rfl (lv_at hl 1 rfl) ?_
  refine lv_aload_n hx hb dL_law_557 rfl (lv_at hl 0 rfl) ?_
  refine lv_iload_n hx hb dL_law_558 rfl (lv_at hl 3 rfl) ?_
  refine lv_iconst (v := 1) hx hb dL_law_559 (by decide) ?_
  refine lv_iadd hx hb dL_law_560 ?_
  obtain ⟨hi1, hf⟩ := gi_e hf
  refine va_sld hx hb hX hbl hbA hS hi1 dL_law_561 ?_
  refine lv_aload_n hx hb dL_law_562 rfl (lv_at hl 0 rfl) ?_
  refine lv_iload_n hx hb dL_law_563 rfl (lv_at hl 3 rfl) ?_
  refine lv_iconst (v := 2) hx hb dL_law_564 (by decide) ?_
  refine lv_iadd hx hb dL_law_565 ?_
  obtain ⟨hi2, hf⟩ := gi_e hf
  refine va_sld hx hb hX hbl hbA hS hi2 dL_law_566 ?_
  obtain ⟨r567, hr567, hf⟩ := bn_e hf
  have hPc : va_P (dC, dI) vwCl (wB g B ++ wT cs (fun i => g (1 + i)) N) _ := (hP.l.l.l.l.l.l.l.l.l.l.l.l.l.l).app (hP.l.l.l.l.l.l.l.l.l.l.l.l.l.r)
  have hec : ((wB g B ++ wT cs (fun i => g (1 + i)) N)).map Prod.fst = ([0, 1, 2, 3, 4, 5, 6, 7, 8, 9, 10, 11] : List Nat).map (adr g a) := rfl
  have hDc := vD_adr hJ [0, 1, 2, 3, 4, 5, 6, 7, 8, 9, 10, 11] (by decide) (by decide) hec
  have hFc := vF_adr hDc hS hA
  refine va_calli (va_runV (As := [.int ((xs ((x3 + (1 : Int32))).toNatClampNeg)), .int ((xs ((x3 + (2 : Int32))).toNatClampNeg))]) (rest := []) C (c_X7_about l dC dI cs g H.size B N (xs ((x3 + (1 : Int32))).toNatClampNeg) (xs ((x3 + (2 : Int32))).toNatClampNeg) r567 hr567) (cwV 2 hts gL_law_X7_about rfl rfl rfl (by decide +kernel) ⟨Nat.le_of_ble_eq_true rfl, Nat.le_of_ble_eq_true rfl⟩) ⟨(fun a U g mk q => ⟨q.1, q.2.1, q.2.2.1, GE.calling q.2.2.2.1, q.2.2.2.2⟩), va_recv hK hPc (ci := 7) (q0 := 0) rfl rfl, (fun U hU hW => ⟨rfl, by rw [hU], by rw [hU]; exact hPc, GE.warm hW G, hDc.weaken (fun _ _ _ _ => trivial)⟩)⟩ rfl rfl hl.1 rfl (lv_room (Nat.le_of_ble_eq_true rfl)) dL_law_567 ⟨Nat.le_of_ble_eq_true rfl, Nat.le_of_ble_eq_true rfl⟩) hS (fun q _ h => hFc q h) hFc (fun q u t H1 locs ht hvm hw hB hz1 hk1 hS => ?_)
  obtain ⟨rfl, rfl⟩ := hw
  obtain ⟨hP1, -⟩ := hB
  rw [ht] at hP1
  have hP : va_P (dC, dI) vwCl (wAll cs g a r567.2 N P I1 T1 P1 I2 T2 P2 X R L K M) H1 := ((((((((((((((hP1.l).app (hP1.r)).app ((vP_keep hJ (hP.l.l.l.l.l.l.l.l.l.l.l.l.r) [12, 13] [0, 1, 2, 3, 4, 5, 6, 7, 8, 9, 10, 11] rfl hec (by decide) (by decide) hk1))).app ((vP_keep hJ (hP.l.l.l.l.l.l.l.l.l.l.l.r) [14] [0, 1, 2, 3, 4, 5, 6, 7, 8, 9, 10, 11] rfl hec (by decide) (by decide) hk1))).app ((vP_keep hJ (hP.l.l.l.l.l.l.l.l.l.l.r) [15, 16, 17, 18, 19, 20, 21, 22, 23, 24, 25] [0, 1, 2, 3, 4, 5, 6, 7, 8, 9, 10, 11] rfl hec (by decide) (by decide) hk1))).app ((vP_keep hJ (hP.l.l.l.l.l.l.l.l.l.r) [26, 27] [0, 1, 2, 3, 4, 5, 6, 7, 8, 9, 10, 11] rfl hec (by decide) (by decide) hk1))).app ((vP_keep hJ (hP.l.l.l.l.l.l.l.l.r) [28] [0, 1, 2, 3, 4, 5, 6, 7, 8, 9, 10, 11] rfl hec (by decide) (by decide) hk1))).app ((vP_keep hJ (hP.l.l.l.l.l.l.l.r) [29, 30, 31, 32, 33, 34, 35, 36, 37, 38, 39] [0, 1, 2, 3, 4, 5, 6, 7, 8, 9, 10, 11] rfl hec (by decide) (by decide) hk1))).app ((vP_keep hJ (hP.l.l.l.l.l.l.r) [40, 41] [0, 1, 2, 3, 4, 5, 6, 7, 8, 9, 10, 11] rfl hec (by decide) (by decide) hk1))).app ((vP_keep hJ (hP.l.l.l.l.l.r) [42, 43] [0, 1, 2, 3, 4, 5, 6, 7, 8, 9, 10, 11] rfl hec (by decide) (by decide) hk1))).app ((vP_keep hJ (hP.l.l.l.l.r) [44] [0, 1, 2, 3, 4, 5, 6, 7, 8, 9, 10, 11] rfl hec (by decide) (by decide) hk1))).app ((vP_keep hJ (hP.l.l.l.r) [45, 46, 47, 48, 49, 50, 51, 52, 53, 54, 55] [0, 1, 2, 3, 4, 5, 6, 7, 8, 9, 10, 11] rfl hec (by decide) (by decide) hk1))).app ((vP_keep hJ (hP.l.l.r) [56, 57, 58, 59] [0, 1, 2, 3, 4, 5, 6, 7, 8, 9, 10, 11] rfl hec (by decide) (by decide) hk1))).app ((vP_keep hJ (hP.l.r) [60, 61] [0, 1, 2, 3, 4, 5, 6, 7, 8, 9, 10, 11] rfl hec (by decide) (by decide) hk1))).app ((vP_keep hJ (hP.r) [62, 63, 64, 65, 66, 67, 68, 69, 70, 71, 72, 73] [0, 1, 2, 3, 4, 5, 6, 7, 8, 9, 10, 11] rfl hec (by decide) (by decide) hk1))
  generalize H1 = H at hP hS ⊢
  refine lv_aload_n hx hb dL_law_570 rfl (lv_at hl 2 rfl) ?_
  refine lv_aload_n hx hb dL_law_571 rfl (lv_at hl 0 rfl) ?_
  refine lv_iload_n hx hb dL_law_572 rfl (lv_at hl 3 rfl) ?_
  refine lv_iconst (v := 1) hx hb dL_law_573 (by decide) ?_
  refine lv_iadd hx hb dL_law_574 ?_
  obtain ⟨hi3, hf⟩ := gi_e hf
  refine va_sld hx hb hX hbl hbA hS hi3 dL_law_575 ?_
  refine lv_aload_n hx hb dL_law_576 rfl (lv_at hl 0 rfl) ?_
  refine lv_iload_n hx hb dL_law_577 rfl (lv_at hl 3 rfl) ?_
  refine lv_iconst (v := 2) hx hb dL_law_578 (by decide) ?_
  refine lv_iadd hx hb dL_law_579 ?_
  obtain ⟨hi4, hf⟩ := gi_e hf
  refine va_sld hx hb hX hbl hbA hS hi4 dL_law_580 ?_
  obtain ⟨r581, hr581, hf⟩ := bn_e hf
  have hPc : va_P (dC, dI) vwCl (wM cs a M) _ := hP.r
  have hec : ((wM cs a M)).map Prod.fst = ([62, 63, 64, 65, 66, 67, 68, 69, 70, 71, 72, 73] : List Nat).map (adr g a) := rfl
  have hDc := vD_adr hJ [62, 63, 64, 65, 66, 67, 68, 69, 70, 71, 72, 73] (by decide) (by decide) hec
  have hFc := vF_adr hDc hS hA
  refine va_calli (va_runV (As := [.int ((xs ((x3 + (1 : Int32))).toNatClampNeg)), .int ((xs ((x3 + (2 : Int32))).toNatClampNeg))]) (rest := [.int (r567.1)]) C (c_X8_about l dC dI cs a H.size M (xs ((x3 + (1 : Int32))).toNatClampNeg) (xs ((x3 + (2 : Int32))).toNatClampNeg) r581 hr581) (cwV 2 hts gL_law_X8_about rfl rfl rfl (by decide +kernel) ⟨Nat.le_of_ble_eq_true rfl, Nat.le_of_ble_eq_true rfl⟩) ⟨(fun a U g mk q => ⟨q.1, q.2.1, q.2.2.1, GE.calling q.2.2.2.1, q.2.2.2.2⟩), va_recv hK hPc (ci := 8) (q0 := 0) rfl rfl, (fun U hU hW => ⟨rfl, by rw [hU], by rw [hU]; exact hPc, GE.warm hW G, hDc.weaken (fun _ _ _ _ => trivial)⟩)⟩ rfl rfl hl.1 rfl (lv_room (Nat.le_of_ble_eq_true rfl)) dL_law_581 ⟨Nat.le_of_ble_eq_true rfl, Nat.le_of_ble_eq_true rfl⟩) hS (fun q _ h => hFc q h) hFc (fun q u t H1 locs ht hvm hw hB hz1 hk1 hS => ?_)
  obtain ⟨rfl, rfl⟩ := hw
  obtain ⟨hP1, -⟩ := hB
  rw [ht] at hP1
  have hP : va_P (dC, dI) vwCl (wAll cs g a r567.2 N P I1 T1 P1 I2 T2 P2 X R L K r581.2) H1 := (((((((((((((((vP_keep hJ (hP.l.l.l.l.l.l.l.l.l.l.l.l.l.l) [0] [62, 63, 64, 65, 66, 67, 68, 69, 70, 71, 72, 73] rfl hec (by decide) (by decide) hk1)).app ((vP_keep hJ (hP.l.l.l.l.l.l.l.l.l.l.l.l.l.r) [1, 2, 3, 4, 5, 6, 7, 8, 9, 10, 11] [62, 63, 64, 65, 66, 67, 68, 69, 70, 71, 72, 73] rfl hec (by decide) (by decide) hk1))).app ((vP_keep hJ (hP.l.l.l.l.l.l.l.l.l.l.l.l.r) [12, 13] [62, 63, 64, 65, 66, 67, 68, 69, 70, 71, 72, 73] rfl hec (by decide) (by decide) hk1))).app ((vP_keep hJ (hP.l.l.l.l.l.l.l.l.l.l.l.r) [14] [62, 63, 64, 65, 66, 67, 68, 69, 70, 71, 72, 73] rfl hec (by decide) (by decide) hk1))).app ((vP_keep hJ (hP.l.l.l.l.l.l.l.l.l.l.r) [15, 16, 17, 18, 19, 20, 21, 22, 23, 24, 25] [62, 63, 64, 65, 66, 67, 68, 69, 70, 71, 72, 73] rfl hec (by decide) (by decide) hk1))).app ((vP_keep hJ (hP.l.l.l.l.l.l.l.l.l.r) [26, 27] [62, 63, 64, 65, 66, 67, 68, 69, 70, 71, 72, 73] rfl hec (by decide) (by decide) hk1))).app ((vP_keep hJ (hP.l.l.l.l.l.l.l.l.r) [28] [62, 63, 64, 65, 66, 67, 68, 69, 70, 71, 72, 73] rfl hec (by decide) (by decide) hk1))).app ((vP_keep hJ (hP.l.l.l.l.l.l.l.r) [29, 30, 31, 32, 33, 34, 35, 36, 37, 38, 39] [62, 63, 64, 65, 66, 67, 68, 69, 70, 71, 72, 73] rfl hec (by decide) (by decide) hk1))).app ((vP_keep hJ (hP.l.l.l.l.l.l.r) [40, 41] [62, 63, 64, 65, 66, 67, 68, 69, 70, 71, 72, 73] rfl hec (by decide) (by decide) hk1))).app ((vP_keep hJ (hP.l.l.l.l.l.r) [42, 43] [62, 63, 64, 65, 66, 67, 68, 69, 70, 71, 72, 73] rfl hec (by decide) (by decide) hk1))).app ((vP_keep hJ (hP.l.l.l.l.r) [44] [62, 63, 64, 65, 66, 67, 68, 69, 70, 71, 72, 73] rfl hec (by decide) (by decide) hk1))).app ((vP_keep hJ (hP.l.l.l.r) [45, 46, 47, 48, 49, 50, 51, 52, 53, 54, 55] [62, 63, 64, 65, 66, 67, 68, 69, 70, 71, 72, 73] rfl hec (by decide) (by decide) hk1))).app ((vP_keep hJ (hP.l.l.r) [56, 57, 58, 59] [62, 63, 64, 65, 66, 67, 68, 69, 70, 71, 72, 73] rfl hec (by decide) (by decide) hk1))).app ((vP_keep hJ (hP.l.r) [60, 61] [62, 63, 64, 65, 66, 67, 68, 69, 70, 71, 72, 73] rfl hec (by decide) (by decide) hk1))).app (hP1)
  generalize H1 = H at hP hS ⊢
  refine lv_icmp_eq (tgt := 1128) hx hb dL_law_584 (by decide) (fun c5 => ?_) (fun c5 => ?_)
  · replace hf := it_t c5 hf
    exact b_L_law_1128 C G hX hbl hbA hE hJ hA hR x3 r567.2 N P I1 T1 P1 I2 T2 P2 X R L K r581.2 hK18 _ _ _ (lv_sub hl [0, 1, 2, 3] rfl) hP hS hf
  · replace hf := it_f c5 hf
    refine lv_iconst (v := 0) hx hb dL_law_587 (by decide) ?_
    exact hR _ _ _ _ _ dL_law_588 hf hS
def f_L_law_589 (Ls : Nat) (xs : Nat → Int32) (x3 : Int32) (B : Nat → Int32) (N : Tw) (P : Ps) (I1 : Int32) (T1 : Tw) (P1 : Ps) (I2 : Int32) (T2 : Tw) (P2 : Ps) (X : Tx) (R : Tw) (L : Wl) (K : Ch) (M : Ms) (K18 : Int32 → (Nat → Int32) → Tw → Ps → Int32 → Tw → Ps → Int32 → Tw → Ps → Tx → Tw → Wl → Ch → Ms → Option Int32) : Option Int32 :=
  gi ((x3 + (1 : Int32))) Ls <|
  gi ((x3 + (2 : Int32))) Ls <|
  bn (f_X7_foretold (xs ((x3 + (1 : Int32))).toNatClampNeg) (xs ((x3 + (2 : Int32))).toNatClampNeg) B N R) fun r600 =>
  gi ((x3 + (1 : Int32))) Ls <|
  gi ((x3 + (2 : Int32))) Ls <|
  bn (f_X8_foretold (xs ((x3 + (1 : Int32))).toNatClampNeg) (xs ((x3 + (2 : Int32))).toNatClampNeg) M) fun r614 =>
  if r600.1 = r614.1 then (
    f_L_law_1128 Ls xs x3 r600.2.1 N P I1 T1 P1 I2 T2 P2 X r600.2.2 L K r614.2 K18
  ) else (
    some (0 : Int32)
  )
set_option maxHeartbeats 4000000 in
set_option maxRecDepth 100000 in
theorem b_L_law_589 {p : Program} {l : Launch} {e : Env} {s : State} {m : MethodId} {args : Array Value} {below : List Frame} {meth : Method} {c : Code} {Q : State → Prop} {dC : Nat → ClassId} {dI : Nat → Nat → Nat} {cs : Nat → ClassId} {A : Nat → Prop} {g : Nat → Nat} {adK : Nat → Nat} {adV : Nat → Nat} {b : Nat} {a : Nat → Nat} {Ls : Nat} {xs : Nat → Int32} {res : Int32} (C : CallFix p m c cL_law 4 s args wsL_law RL) (G : GE dC dI cs s) (hX : va_X b Ls xs s s.heap) (hbl : b < s.heap.size) (hbA : ¬ A b) (hE : SE adK adV A s s.heap) (hJ : adI A (adr g a) 74) (hA : ∀ q : Nat, s.heap.size ≤ q → A q) (hR : RTw p l e s m args below meth c Q A res) (x3 : Int32) (B : Nat → Int32) (N : Tw) (P : Ps) (I1 : Int32) (T1 : Tw) (P1 : Ps) (I2 : Int32) (T2 : Tw) (P2 : Ps) (X : Tx) (R : Tw) (L : Wl) (K : Ch) (M : Ms) {K18 : Int32 → (Nat → Int32) → Tw → Ps → Int32 → Tw → Ps → Int32 → Tw → Ps → Tx → Tw → Wl → Ch → Ms → Option Int32} (hK18 : ∀ (x3 : Int32) (B : Nat → Int32) (N : Tw) (P : Ps) (I1 : Int32) (T1 : Tw) (P1 : Ps) (I2 : Int32) (T2 : Tw) (P2 : Ps) (X : Tx) (R : Tw) (L : Wl) (K : Ch) (M : Ms) (H : Heap) (locs : List Loc) (ls : Array Slot), lv_has ls 4 [(0, .ref b), (1, .ref (g 0)), (2, .ref (a 0)), (3, .int (x3))] → va_P (dC, dI) vwCl (wAll cs g a B N P I1 T1 P1 I2 T2 P2 X R L K M) H → va_S A s.heap H locs → K18 x3 B N P I1 T1 P1 I2 T2 P2 X R L K M = some res → W p l e room_1 s m args below meth c H locs 74 3434 Q (F0 m 18 ls [])) (H : Heap) (locs : List Loc) (ls : Array Slot) (hl : lv_has ls 4 [(0, .ref b), (1, .ref (g 0)), (2, .ref (a 0)), (3, .int (x3))]) (hP : va_P (dC, dI) vwCl (wAll cs g a B N P I1 T1 P1 I2 T2 P2 X R L K M) H) (hS : va_S A s.heap H locs) (hf : f_L_law_589 Ls xs x3 B N P I1 T1 P1 I2 T2 P2 X R L K M K18 = some res) : W p l e room_1 s m args below meth c H locs 74 3434 Q (F0 m 589 ls []) := by
  obtain ⟨hx, hb, hml, hown, hts⟩ := id C
  obtain ⟨hK, hN⟩ := id G
  unfold f_L_law_589 at hf
  refine lv_aload_n hx hb dL_law_589 rfl (lv_at hl 1 rfl) ?_
  refine lv_aload_n hx hb dL_law_590 rfl (lv_at hl 0 rfl) ?_
  refine lv_iload_n hx hb dL_law_591 rfl (lv_at hl 3 rfl) ?_
  refine lv_iconst (v := 1) hx hb dL_law_592 (by decide) ?_
  refine lv_iadd hx hb dL_law_593 ?_
  obtain ⟨hi1, hf⟩ := gi_e hf
  refine va_sld hx hb hX hbl hbA hS hi1 dL_law_594 ?_
  refine lv_aload_n hx hb dL_law_595 rfl (lv_at hl 0 rfl) ?_
  refine lv_iload_n hx hb dL_law_596 rfl (lv_at hl 3 rfl) ?_
  refine lv_iconst (v := 2) hx hb dL_law_597 (by decide) ?_
  refine lv_iadd hx hb dL_law_598 ?_
  obtain ⟨hi2, hf⟩ := gi_e hf
  refine va_sld hx hb hX hbl hbA hS hi2 dL_law_599 ?_
  obtain ⟨r600, hr600, hf⟩ := bn_e hf
  have hPc : va_P (dC, dI) vwCl (wB g B ++ wT cs (fun i => g (1 + i)) N ++ wF (g 44) (g 45) ++ wT cs (fun i => g (45 + i)) R) _ := (((hP.l.l.l.l.l.l.l.l.l.l.l.l.l.l).app (hP.l.l.l.l.l.l.l.l.l.l.l.l.l.r)).app (hP.l.l.l.l.r)).app (hP.l.l.l.r)
  have hec : ((wB g B ++ wT cs (fun i => g (1 + i)) N ++ wF (g 44) (g 45) ++ wT cs (fun i => g (45 + i)) R)).map Prod.fst = ([0, 1, 2, 3, 4, 5, 6, 7, 8, 9, 10, 11, 44, 45, 46, 47, 48, 49, 50, 51, 52, 53, 54, 55] : List Nat).map (adr g a) := rfl
  have hDc := vD_adr hJ [0, 1, 2, 3, 4, 5, 6, 7, 8, 9, 10, 11, 44, 45, 46, 47, 48, 49, 50, 51, 52, 53, 54, 55] (by decide) (by decide) hec
  have hFc := vF_adr hDc hS hA
  refine va_calli (va_runV (As := [.int ((xs ((x3 + (1 : Int32))).toNatClampNeg)), .int ((xs ((x3 + (2 : Int32))).toNatClampNeg))]) (rest := []) C (c_X7_foretold l dC dI cs g H.size B N R (xs ((x3 + (1 : Int32))).toNatClampNeg) (xs ((x3 + (2 : Int32))).toNatClampNeg) r600 hr600) (cwV 2 hts gL_law_X7_foretold rfl rfl rfl (by decide +kernel) ⟨Nat.le_of_ble_eq_true rfl, Nat.le_of_ble_eq_true rfl⟩) ⟨(fun a U g mk q => ⟨q.1, q.2.1, q.2.2.1, GE.calling q.2.2.2.1, q.2.2.2.2⟩), va_recv hK hPc (ci := 7) (q0 := 0) rfl rfl, (fun U hU hW => ⟨rfl, by rw [hU], by rw [hU]; exact hPc, GE.warm hW G, hDc.weaken (fun _ _ _ _ => trivial)⟩)⟩ rfl rfl hl.1 rfl (lv_room (Nat.le_of_ble_eq_true rfl)) dL_law_600 ⟨Nat.le_of_ble_eq_true rfl, Nat.le_of_ble_eq_true rfl⟩) hS (fun q _ h => hFc q h) hFc (fun q u t H1 locs ht hvm hw hB hz1 hk1 hS => ?_)
  obtain ⟨rfl, rfl⟩ := hw
  obtain ⟨hP1, -⟩ := hB
  rw [ht] at hP1
  have hP : va_P (dC, dI) vwCl (wAll cs g a r600.2.1 N P I1 T1 P1 I2 T2 P2 X r600.2.2 L K M) H1 := ((((((((((((((hP1.l.l.l).app (hP1.l.l.r)).app ((vP_keep hJ (hP.l.l.l.l.l.l.l.l.l.l.l.l.r) [12, 13] [0, 1, 2, 3, 4, 5, 6, 7, 8, 9, 10, 11, 44, 45, 46, 47, 48, 49, 50, 51, 52, 53, 54, 55] rfl hec (by decide) (by decide) hk1))).app ((vP_keep hJ (hP.l.l.l.l.l.l.l.l.l.l.l.r) [14] [0, 1, 2, 3, 4, 5, 6, 7, 8, 9, 10, 11, 44, 45, 46, 47, 48, 49, 50, 51, 52, 53, 54, 55] rfl hec (by decide) (by decide) hk1))).app ((vP_keep hJ (hP.l.l.l.l.l.l.l.l.l.l.r) [15, 16, 17, 18, 19, 20, 21, 22, 23, 24, 25] [0, 1, 2, 3, 4, 5, 6, 7, 8, 9, 10, 11, 44, 45, 46, 47, 48, 49, 50, 51, 52, 53, 54, 55] rfl hec (by decide) (by decide) hk1))).app ((vP_keep hJ (hP.l.l.l.l.l.l.l.l.l.r) [26, 27] [0, 1, 2, 3, 4, 5, 6, 7, 8, 9, 10, 11, 44, 45, 46, 47, 48, 49, 50, 51, 52, 53, 54, 55] rfl hec (by decide) (by decide) hk1))).app ((vP_keep hJ (hP.l.l.l.l.l.l.l.l.r) [28] [0, 1, 2, 3, 4, 5, 6, 7, 8, 9, 10, 11, 44, 45, 46, 47, 48, 49, 50, 51, 52, 53, 54, 55] rfl hec (by decide) (by decide) hk1))).app ((vP_keep hJ (hP.l.l.l.l.l.l.l.r) [29, 30, 31, 32, 33, 34, 35, 36, 37, 38, 39] [0, 1, 2, 3, 4, 5, 6, 7, 8, 9, 10, 11, 44, 45, 46, 47, 48, 49, 50, 51, 52, 53, 54, 55] rfl hec (by decide) (by decide) hk1))).app ((vP_keep hJ (hP.l.l.l.l.l.l.r) [40, 41] [0, 1, 2, 3, 4, 5, 6, 7, 8, 9, 10, 11, 44, 45, 46, 47, 48, 49, 50, 51, 52, 53, 54, 55] rfl hec (by decide) (by decide) hk1))).app ((vP_keep hJ (hP.l.l.l.l.l.r) [42, 43] [0, 1, 2, 3, 4, 5, 6, 7, 8, 9, 10, 11, 44, 45, 46, 47, 48, 49, 50, 51, 52, 53, 54, 55] rfl hec (by decide) (by decide) hk1))).app (hP1.l.r)).app (hP1.r)).app ((vP_keep hJ (hP.l.l.r) [56, 57, 58, 59] [0, 1, 2, 3, 4, 5, 6, 7, 8, 9, 10, 11, 44, 45, 46, 47, 48, 49, 50, 51, 52, 53, 54, 55] rfl hec (by decide) (by decide) hk1))).app ((vP_keep hJ (hP.l.r) [60, 61] [0, 1, 2, 3, 4, 5, 6, 7, 8, 9, 10, 11, 44, 45, 46, 47, 48, 49, 50, 51, 52, 53, 54, 55] rfl hec (by decide) (by decide) hk1))).app ((vP_keep hJ (hP.r) [62, 63, 64, 65, 66, 67, 68, 69, 70, 71, 72, 73] [0, 1, 2, 3, 4, 5, 6, 7, 8, 9, 10, 11, 44, 45, 46, 47, 48, 49, 50, 51, 52, 53, 54, 55] rfl hec (by decide) (by decide) hk1))
  generalize H1 = H at hP hS ⊢
  refine lv_aload_n hx hb dL_law_603 rfl (lv_at hl 2 rfl) ?_
  refine lv_aload_n hx hb dL_law_604 rfl (lv_at hl 0 rfl) ?_
  refine lv_iload_n hx hb dL_law_605 rfl (lv_at hl 3 rfl) ?_
  refine lv_iconst (v := 1) hx hb dL_law_606 (by decide) ?_
  refine lv_iadd hx hb dL_law_607 ?_
  obtain ⟨hi3, hf⟩ := gi_e hf
  refine va_sld hx hb hX hbl hbA hS hi3 dL_law_608 ?_
  refine lv_aload_n hx hb dL_law_609 rfl (lv_at hl 0 rfl) ?_
  refine lv_iload_n hx hb dL_law_610 rfl (lv_at hl 3 rfl) ?_
  refine lv_iconst (v := 2) hx hb dL_law_611 (by decide) ?_
  refine lv_iadd hx hb dL_law_612 ?_
  obtain ⟨hi4, hf⟩ := gi_e hf
  refine va_sld hx hb hX hbl hbA hS hi4 dL_law_613 ?_
  obtain ⟨r614, hr614, hf⟩ := bn_e hf
  have hPc : va_P (dC, dI) vwCl (wM cs a M) _ := hP.r
  have hec : ((wM cs a M)).map Prod.fst = ([62, 63, 64, 65, 66, 67, 68, 69, 70, 71, 72, 73] : List Nat).map (adr g a) := rfl
  have hDc := vD_adr hJ [62, 63, 64, 65, 66, 67, 68, 69, 70, 71, 72, 73] (by decide) (by decide) hec
  have hFc := vF_adr hDc hS hA
  refine va_calli (va_runV (As := [.int ((xs ((x3 + (1 : Int32))).toNatClampNeg)), .int ((xs ((x3 + (2 : Int32))).toNatClampNeg))]) (rest := [.int (r600.1)]) C (c_X8_foretold l dC dI cs a H.size M (xs ((x3 + (1 : Int32))).toNatClampNeg) (xs ((x3 + (2 : Int32))).toNatClampNeg) r614 hr614) (cwV 2 hts gL_law_X8_foretold rfl rfl rfl (by decide +kernel) ⟨Nat.le_of_ble_eq_true rfl, Nat.le_of_ble_eq_true rfl⟩) ⟨(fun a U g mk q => ⟨q.1, q.2.1, q.2.2.1, GE.calling q.2.2.2.1, q.2.2.2.2⟩), va_recv hK hPc (ci := 8) (q0 := 0) rfl rfl, (fun U hU hW => ⟨rfl, by rw [hU], by rw [hU]; exact hPc, GE.warm hW G, hDc.weaken (fun _ _ _ _ => trivial)⟩)⟩ rfl rfl hl.1 rfl (lv_room (Nat.le_of_ble_eq_true rfl)) dL_law_614 ⟨Nat.le_of_ble_eq_true rfl, Nat.le_of_ble_eq_true rfl⟩) hS (fun q _ h => hFc q h) hFc (fun q u t H1 locs ht hvm hw hB hz1 hk1 hS => ?_)
  obtain ⟨rfl, rfl⟩ := hw
  obtain ⟨hP1, -⟩ := hB
  rw [ht] at hP1
  have hP : va_P (dC, dI) vwCl (wAll cs g a r600.2.1 N P I1 T1 P1 I2 T2 P2 X r600.2.2 L K r614.2) H1 := (((((((((((((((vP_keep hJ (hP.l.l.l.l.l.l.l.l.l.l.l.l.l.l) [0] [62, 63, 64, 65, 66, 67, 68, 69, 70, 71, 72, 73] rfl hec (by decide) (by decide) hk1)).app ((vP_keep hJ (hP.l.l.l.l.l.l.l.l.l.l.l.l.l.r) [1, 2, 3, 4, 5, 6, 7, 8, 9, 10, 11] [62, 63, 64, 65, 66, 67, 68, 69, 70, 71, 72, 73] rfl hec (by decide) (by decide) hk1))).app ((vP_keep hJ (hP.l.l.l.l.l.l.l.l.l.l.l.l.r) [12, 13] [62, 63, 64, 65, 66, 67, 68, 69, 70, 71, 72, 73] rfl hec (by decide) (by decide) hk1))).app ((vP_keep hJ (hP.l.l.l.l.l.l.l.l.l.l.l.r) [14] [62, 63, 64, 65, 66, 67, 68, 69, 70, 71, 72, 73] rfl hec (by decide) (by decide) hk1))).app ((vP_keep hJ (hP.l.l.l.l.l.l.l.l.l.l.r) [15, 16, 17, 18, 19, 20, 21, 22, 23, 24, 25] [62, 63, 64, 65, 66, 67, 68, 69, 70, 71, 72, 73] rfl hec (by decide) (by decide) hk1))).app ((vP_keep hJ (hP.l.l.l.l.l.l.l.l.l.r) [26, 27] [62, 63, 64, 65, 66, 67, 68, 69, 70, 71, 72, 73] rfl hec (by decide) (by decide) hk1))).app ((vP_keep hJ (hP.l.l.l.l.l.l.l.l.r) [28] [62, 63, 64, 65, 66, 67, 68, 69, 70, 71, 72, 73] rfl hec (by decide) (by decide) hk1))).app ((vP_keep hJ (hP.l.l.l.l.l.l.l.r) [29, 30, 31, 32, 33, 34, 35, 36, 37, 38, 39] [62, 63, 64, 65, 66, 67, 68, 69, 70, 71, 72, 73] rfl hec (by decide) (by decide) hk1))).app ((vP_keep hJ (hP.l.l.l.l.l.l.r) [40, 41] [62, 63, 64, 65, 66, 67, 68, 69, 70, 71, 72, 73] rfl hec (by decide) (by decide) hk1))).app ((vP_keep hJ (hP.l.l.l.l.l.r) [42, 43] [62, 63, 64, 65, 66, 67, 68, 69, 70, 71, 72, 73] rfl hec (by decide) (by decide) hk1))).app ((vP_keep hJ (hP.l.l.l.l.r) [44] [62, 63, 64, 65, 66, 67, 68, 69, 70, 71, 72, 73] rfl hec (by decide) (by decide) hk1))).app ((vP_keep hJ (hP.l.l.l.r) [45, 46, 47, 48, 49, 50, 51, 52, 53, 54, 55] [62, 63, 64, 65, 66, 67, 68, 69, 70, 71, 72, 73] rfl hec (by decide) (by decide) hk1))).app ((vP_keep hJ (hP.l.l.r) [56, 57, 58, 59] [62, 63, 64, 65, 66, 67, 68, 69, 70, 71, 72, 73] rfl hec (by decide) (by decide) hk1))).app ((vP_keep hJ (hP.l.r) [60, 61] [62, 63, 64, 65, 66, 67, 68, 69, 70, 71, 72, 73] rfl hec (by decide) (by decide) hk1))).app (hP1)
  generalize H1 = H at hP hS ⊢
  refine lv_icmp_eq (tgt := 1128) hx hb dL_law_617 (by decide) (fun c5 => ?_) (fun c5 => ?_)
  · replace hf := it_t c5 hf
    exact b_L_law_1128 C G hX hbl hbA hE hJ hA hR x3 r600.2.1 N P I1 T1 P1 I2 T2 P2 X r600.2.2 L K r614.2 hK18 _ _ _ (lv_sub hl [0, 1, 2, 3] rfl) hP hS hf
  · replace hf := it_f c5 hf
    refine lv_iconst (v := 0) hx hb dL_law_620 (by decide) ?_
    exact hR _ _ _ _ _ dL_law_621 hf hS
def f_L_law_622 (Ls : Nat) (xs : Nat → Int32) (x3 : Int32) (B : Nat → Int32) (N : Tw) (P : Ps) (I1 : Int32) (T1 : Tw) (P1 : Ps) (I2 : Int32) (T2 : Tw) (P2 : Ps) (X : Tx) (R : Tw) (L : Wl) (K : Ch) (M : Ms) (K18 : Int32 → (Nat → Int32) → Tw → Ps → Int32 → Tw → Ps → Int32 → Tw → Ps → Tx → Tw → Wl → Ch → Ms → Option Int32) : Option Int32 :=
  gi ((x3 + (1 : Int32))) Ls <|
  gi ((x3 + (2 : Int32))) Ls <|
  bn (f_X7_purse (xs ((x3 + (1 : Int32))).toNatClampNeg) (xs ((x3 + (2 : Int32))).toNatClampNeg) B N R) fun r633 =>
  gi ((x3 + (1 : Int32))) Ls <|
  gi ((x3 + (2 : Int32))) Ls <|
  bn (f_X8_purse (xs ((x3 + (1 : Int32))).toNatClampNeg) (xs ((x3 + (2 : Int32))).toNatClampNeg) M) fun r647 =>
  if r633.1 = r647.1 then (
    f_L_law_1128 Ls xs x3 r633.2.1 N P I1 T1 P1 I2 T2 P2 X r633.2.2 L K r647.2 K18
  ) else (
    some (0 : Int32)
  )
set_option maxHeartbeats 4000000 in
set_option maxRecDepth 100000 in
theorem b_L_law_622 {p : Program} {l : Launch} {e : Env} {s : State} {m : MethodId} {args : Array Value} {below : List Frame} {meth : Method} {c : Code} {Q : State → Prop} {dC : Nat → ClassId} {dI : Nat → Nat → Nat} {cs : Nat → ClassId} {A : Nat → Prop} {g : Nat → Nat} {adK : Nat → Nat} {adV : Nat → Nat} {b : Nat} {a : Nat → Nat} {Ls : Nat} {xs : Nat → Int32} {res : Int32} (C : CallFix p m c cL_law 4 s args wsL_law RL) (G : GE dC dI cs s) (hX : va_X b Ls xs s s.heap) (hbl : b < s.heap.size) (hbA : ¬ A b) (hE : SE adK adV A s s.heap) (hJ : adI A (adr g a) 74) (hA : ∀ q : Nat, s.heap.size ≤ q → A q) (hR : RTw p l e s m args below meth c Q A res) (x3 : Int32) (B : Nat → Int32) (N : Tw) (P : Ps) (I1 : Int32) (T1 : Tw) (P1 : Ps) (I2 : Int32) (T2 : Tw) (P2 : Ps) (X : Tx) (R : Tw) (L : Wl) (K : Ch) (M : Ms) {K18 : Int32 → (Nat → Int32) → Tw → Ps → Int32 → Tw → Ps → Int32 → Tw → Ps → Tx → Tw → Wl → Ch → Ms → Option Int32} (hK18 : ∀ (x3 : Int32) (B : Nat → Int32) (N : Tw) (P : Ps) (I1 : Int32) (T1 : Tw) (P1 : Ps) (I2 : Int32) (T2 : Tw) (P2 : Ps) (X : Tx) (R : Tw) (L : Wl) (K : Ch) (M : Ms) (H : Heap) (locs : List Loc) (ls : Array Slot), lv_has ls 4 [(0, .ref b), (1, .ref (g 0)), (2, .ref (a 0)), (3, .int (x3))] → va_P (dC, dI) vwCl (wAll cs g a B N P I1 T1 P1 I2 T2 P2 X R L K M) H → va_S A s.heap H locs → K18 x3 B N P I1 T1 P1 I2 T2 P2 X R L K M = some res → W p l e room_1 s m args below meth c H locs 74 3434 Q (F0 m 18 ls [])) (H : Heap) (locs : List Loc) (ls : Array Slot) (hl : lv_has ls 4 [(0, .ref b), (1, .ref (g 0)), (2, .ref (a 0)), (3, .int (x3))]) (hP : va_P (dC, dI) vwCl (wAll cs g a B N P I1 T1 P1 I2 T2 P2 X R L K M) H) (hS : va_S A s.heap H locs) (hf : f_L_law_622 Ls xs x3 B N P I1 T1 P1 I2 T2 P2 X R L K M K18 = some res) : W p l e room_1 s m args below meth c H locs 74 3434 Q (F0 m 622 ls []) := by
  obtain ⟨hx, hb, hml, hown, hts⟩ := id C
  obtain ⟨hK, hN⟩ := id G
  unfold f_L_law_622 at hf
  refine lv_aload_n hx hb dL_law_622 rfl (lv_at hl 1 rfl) ?_
  refine lv_aload_n hx hb dL_law_623 rfl (lv_at hl 0 rfl) ?_
  refine lv_iload_n hx hb dL_law_624 rfl (lv_at hl 3 rfl) ?_
  refine lv_iconst (v := 1) hx hb dL_law_625 (by decide) ?_
  refine lv_iadd hx hb dL_law_626 ?_
  obtain ⟨hi1, hf⟩ := gi_e hf
  refine va_sld hx hb hX hbl hbA hS hi1 dL_law_627 ?_
  refine lv_aload_n hx hb dL_law_628 rfl (lv_at hl 0 rfl) ?_
  refine lv_iload_n hx hb dL_law_629 rfl (lv_at hl 3 rfl) ?_
  refine lv_iconst (v := 2) hx hb dL_law_630 (by decide) ?_
  refine lv_iadd hx hb dL_law_631 ?_
  obtain ⟨hi2, hf⟩ := gi_e hf
  refine va_sld hx hb hX hbl hbA hS hi2 dL_law_632 ?_
  obtain ⟨r633, hr633, hf⟩ := bn_e hf
  have hPc : va_P (dC, dI) vwCl (wB g B ++ wT cs (fun i => g (1 + i)) N ++ wF (g 44) (g 45) ++ wT cs (fun i => g (45 + i)) R) _ := (((hP.l.l.l.l.l.l.l.l.l.l.l.l.l.l).app (hP.l.l.l.l.l.l.l.l.l.l.l.l.l.r)).app (hP.l.l.l.l.r)).app (hP.l.l.l.r)
  have hec : ((wB g B ++ wT cs (fun i => g (1 + i)) N ++ wF (g 44) (g 45) ++ wT cs (fun i => g (45 + i)) R)).map Prod.fst = ([0, 1, 2, 3, 4, 5, 6, 7, 8, 9, 10, 11, 44, 45, 46, 47, 48, 49, 50, 51, 52, 53, 54, 55] : List Nat).map (adr g a) := rfl
  have hDc := vD_adr hJ [0, 1, 2, 3, 4, 5, 6, 7, 8, 9, 10, 11, 44, 45, 46, 47, 48, 49, 50, 51, 52, 53, 54, 55] (by decide) (by decide) hec
  have hFc := vF_adr hDc hS hA
  refine va_calli (va_runV (As := [.int ((xs ((x3 + (1 : Int32))).toNatClampNeg)), .int ((xs ((x3 + (2 : Int32))).toNatClampNeg))]) (rest := []) C (c_X7_purse l dC dI cs g H.size B N R (xs ((x3 + (1 : Int32))).toNatClampNeg) (xs ((x3 + (2 : Int32))).toNatClampNeg) r633 hr633) (cwV 2 hts gL_law_X7_purse rfl rfl rfl (by decide +kernel) ⟨Nat.le_of_ble_eq_true rfl, Nat.le_of_ble_eq_true rfl⟩) ⟨(fun a U g mk q => ⟨q.1, q.2.1, q.2.2.1, GE.calling q.2.2.2.1, q.2.2.2.2⟩), va_recv hK hPc (ci := 7) (q0 := 0) rfl rfl, (fun U hU hW => ⟨rfl, by rw [hU], by rw [hU]; exact hPc, GE.warm hW G, hDc.weaken (fun _ _ _ _ => trivial)⟩)⟩ rfl rfl hl.1 rfl (lv_room (Nat.le_of_ble_eq_true rfl)) dL_law_633 ⟨Nat.le_of_ble_eq_true rfl, Nat.le_of_ble_eq_true rfl⟩) hS (fun q _ h => hFc q h) hFc (fun q u t H1 locs ht hvm hw hB hz1 hk1 hS => ?_)
  obtain ⟨rfl, rfl⟩ := hw
  obtain ⟨hP1, -⟩ := hB
  rw [ht] at hP1
  have hP : va_P (dC, dI) vwCl (wAll cs g a r633.2.1 N P I1 T1 P1 I2 T2 P2 X r633.2.2 L K M) H1 := ((((((((((((((hP1.l.l.l).app (hP1.l.l.r)).app ((vP_keep hJ (hP.l.l.l.l.l.l.l.l.l.l.l.l.r) [12, 13] [0, 1, 2, 3, 4, 5, 6, 7, 8, 9, 10, 11, 44, 45, 46, 47, 48, 49, 50, 51, 52, 53, 54, 55] rfl hec (by decide) (by decide) hk1))).app ((vP_keep hJ (hP.l.l.l.l.l.l.l.l.l.l.l.r) [14] [0, 1, 2, 3, 4, 5, 6, 7, 8, 9, 10, 11, 44, 45, 46, 47, 48, 49, 50, 51, 52, 53, 54, 55] rfl hec (by decide) (by decide) hk1))).app ((vP_keep hJ (hP.l.l.l.l.l.l.l.l.l.l.r) [15, 16, 17, 18, 19, 20, 21, 22, 23, 24, 25] [0, 1, 2, 3, 4, 5, 6, 7, 8, 9, 10, 11, 44, 45, 46, 47, 48, 49, 50, 51, 52, 53, 54, 55] rfl hec (by decide) (by decide) hk1))).app ((vP_keep hJ (hP.l.l.l.l.l.l.l.l.l.r) [26, 27] [0, 1, 2, 3, 4, 5, 6, 7, 8, 9, 10, 11, 44, 45, 46, 47, 48, 49, 50, 51, 52, 53, 54, 55] rfl hec (by decide) (by decide) hk1))).app ((vP_keep hJ (hP.l.l.l.l.l.l.l.l.r) [28] [0, 1, 2, 3, 4, 5, 6, 7, 8, 9, 10, 11, 44, 45, 46, 47, 48, 49, 50, 51, 52, 53, 54, 55] rfl hec (by decide) (by decide) hk1))).app ((vP_keep hJ (hP.l.l.l.l.l.l.l.r) [29, 30, 31, 32, 33, 34, 35, 36, 37, 38, 39] [0, 1, 2, 3, 4, 5, 6, 7, 8, 9, 10, 11, 44, 45, 46, 47, 48, 49, 50, 51, 52, 53, 54, 55] rfl hec (by decide) (by decide) hk1))).app ((vP_keep hJ (hP.l.l.l.l.l.l.r) [40, 41] [0, 1, 2, 3, 4, 5, 6, 7, 8, 9, 10, 11, 44, 45, 46, 47, 48, 49, 50, 51, 52, 53, 54, 55] rfl hec (by decide) (by decide) hk1))).app ((vP_keep hJ (hP.l.l.l.l.l.r) [42, 43] [0, 1, 2, 3, 4, 5, 6, 7, 8, 9, 10, 11, 44, 45, 46, 47, 48, 49, 50, 51, 52, 53, 54, 55] rfl hec (by decide) (by decide) hk1))).app (hP1.l.r)).app (hP1.r)).app ((vP_keep hJ (hP.l.l.r) [56, 57, 58, 59] [0, 1, 2, 3, 4, 5, 6, 7, 8, 9, 10, 11, 44, 45, 46, 47, 48, 49, 50, 51, 52, 53, 54, 55] rfl hec (by decide) (by decide) hk1))).app ((vP_keep hJ (hP.l.r) [60, 61] [0, 1, 2, 3, 4, 5, 6, 7, 8, 9, 10, 11, 44, 45, 46, 47, 48, 49, 50, 51, 52, 53, 54, 55] rfl hec (by decide) (by decide) hk1))).app ((vP_keep hJ (hP.r) [62, 63, 64, 65, 66, 67, 68, 69, 70, 71, 72, 73] [0, 1, 2, 3, 4, 5, 6, 7, 8, 9, 10, 11, 44, 45, 46, 47, 48, 49, 50, 51, 52, 53, 54, 55] rfl hec (by decide) (by decide) hk1))
  generalize H1 = H at hP hS ⊢
  refine lv_aload_n hx hb dL_law_636 rfl (lv_at hl 2 rfl) ?_
  refine lv_aload_n hx hb dL_law_637 rfl (lv_at hl 0 rfl) ?_
  refine lv_iload_n hx hb dL_law_638 rfl (lv_at hl 3 rfl) ?_
  refine lv_iconst (v := 1) hx hb dL_law_639 (by decide) ?_
  refine lv_iadd hx hb dL_law_640 ?_
  obtain ⟨hi3, hf⟩ := gi_e hf
  refine va_sld hx hb hX hbl hbA hS hi3 dL_law_641 ?_
  refine lv_aload_n hx hb dL_law_642 rfl (lv_at hl 0 rfl) ?_
  refine lv_iload_n hx hb dL_law_643 rfl (lv_at hl 3 rfl) ?_
  refine lv_iconst (v := 2) hx hb dL_law_644 (by decide) ?_
  refine lv_iadd hx hb dL_law_645 ?_
  obtain ⟨hi4, hf⟩ := gi_e hf
  refine va_sld hx hb hX hbl hbA hS hi4 dL_law_646 ?_
  obtain ⟨r647, hr647, hf⟩ := bn_e hf
  have hPc : va_P (dC, dI) vwCl (wM cs a M) _ := hP.r
  have hec : ((wM cs a M)).map Prod.fst = ([62, 63, 64, 65, 66, 67, 68, 69, 70, 71, 72, 73] : List Nat).map (adr g a) := rfl
  have hDc := vD_adr hJ [62, 63, 64, 65, 66, 67, 68, 69, 70, 71, 72, 73] (by decide) (by decide) hec
  have hFc := vF_adr hDc hS hA
  refine va_calli (va_runV (As := [.int ((xs ((x3 + (1 : Int32))).toNatClampNeg)), .int ((xs ((x3 + (2 : Int32))).toNatClampNeg))]) (rest := [.int (r633.1)]) C (c_X8_purse l dC dI cs a H.size M (xs ((x3 + (1 : Int32))).toNatClampNeg) (xs ((x3 + (2 : Int32))).toNatClampNeg) r647 hr647) (cwV 2 hts gL_law_X8_purse rfl rfl rfl (by decide +kernel) ⟨Nat.le_of_ble_eq_true rfl, Nat.le_of_ble_eq_true rfl⟩) ⟨(fun a U g mk q => ⟨q.1, q.2.1, q.2.2.1, GE.calling q.2.2.2.1, q.2.2.2.2⟩), va_recv hK hPc (ci := 8) (q0 := 0) rfl rfl, (fun U hU hW => ⟨rfl, by rw [hU], by rw [hU]; exact hPc, GE.warm hW G, hDc.weaken (fun _ _ _ _ => trivial)⟩)⟩ rfl rfl hl.1 rfl (lv_room (Nat.le_of_ble_eq_true rfl)) dL_law_647 ⟨Nat.le_of_ble_eq_true rfl, Nat.le_of_ble_eq_true rfl⟩) hS (fun q _ h => hFc q h) hFc (fun q u t H1 locs ht hvm hw hB hz1 hk1 hS => ?_)
  obtain ⟨rfl, rfl⟩ := hw
  obtain ⟨hP1, -⟩ := hB
  rw [ht] at hP1
  have hP : va_P (dC, dI) vwCl (wAll cs g a r633.2.1 N P I1 T1 P1 I2 T2 P2 X r633.2.2 L K r647.2) H1 := (((((((((((((((vP_keep hJ (hP.l.l.l.l.l.l.l.l.l.l.l.l.l.l) [0] [62, 63, 64, 65, 66, 67, 68, 69, 70, 71, 72, 73] rfl hec (by decide) (by decide) hk1)).app ((vP_keep hJ (hP.l.l.l.l.l.l.l.l.l.l.l.l.l.r) [1, 2, 3, 4, 5, 6, 7, 8, 9, 10, 11] [62, 63, 64, 65, 66, 67, 68, 69, 70, 71, 72, 73] rfl hec (by decide) (by decide) hk1))).app ((vP_keep hJ (hP.l.l.l.l.l.l.l.l.l.l.l.l.r) [12, 13] [62, 63, 64, 65, 66, 67, 68, 69, 70, 71, 72, 73] rfl hec (by decide) (by decide) hk1))).app ((vP_keep hJ (hP.l.l.l.l.l.l.l.l.l.l.l.r) [14] [62, 63, 64, 65, 66, 67, 68, 69, 70, 71, 72, 73] rfl hec (by decide) (by decide) hk1))).app ((vP_keep hJ (hP.l.l.l.l.l.l.l.l.l.l.r) [15, 16, 17, 18, 19, 20, 21, 22, 23, 24, 25] [62, 63, 64, 65, 66, 67, 68, 69, 70, 71, 72, 73] rfl hec (by decide) (by decide) hk1))).app ((vP_keep hJ (hP.l.l.l.l.l.l.l.l.l.r) [26, 27] [62, 63, 64, 65, 66, 67, 68, 69, 70, 71, 72, 73] rfl hec (by decide) (by decide) hk1))).app ((vP_keep hJ (hP.l.l.l.l.l.l.l.l.r) [28] [62, 63, 64, 65, 66, 67, 68, 69, 70, 71, 72, 73] rfl hec (by decide) (by decide) hk1))).app ((vP_keep hJ (hP.l.l.l.l.l.l.l.r) [29, 30, 31, 32, 33, 34, 35, 36, 37, 38, 39] [62, 63, 64, 65, 66, 67, 68, 69, 70, 71, 72, 73] rfl hec (by decide) (by decide) hk1))).app ((vP_keep hJ (hP.l.l.l.l.l.l.r) [40, 41] [62, 63, 64, 65, 66, 67, 68, 69, 70, 71, 72, 73] rfl hec (by decide) (by decide) hk1))).app ((vP_keep hJ (hP.l.l.l.l.l.r) [42, 43] [62, 63, 64, 65, 66, 67, 68, 69, 70, 71, 72, 73] rfl hec (by decide) (by decide) hk1))).app ((vP_keep hJ (hP.l.l.l.l.r) [44] [62, 63, 64, 65, 66, 67, 68, 69, 70, 71, 72, 73] rfl hec (by decide) (by decide) hk1))).app ((vP_keep hJ (hP.l.l.l.r) [45, 46, 47, 48, 49, 50, 51, 52, 53, 54, 55] [62, 63, 64, 65, 66, 67, 68, 69, 70, 71, 72, 73] rfl hec (by decide) (by decide) hk1))).app ((vP_keep hJ (hP.l.l.r) [56, 57, 58, 59] [62, 63, 64, 65, 66, 67, 68, 69, 70, 71, 72, 73] rfl hec (by decide) (by decide) hk1))).app ((vP_keep hJ (hP.l.r) [60, 61] [62, 63, 64, 65, 66, 67, 68, 69, 70, 71, 72, 73] rfl hec (by decide) (by decide) hk1))).app (hP1)
  generalize H1 = H at hP hS ⊢
  refine lv_icmp_eq (tgt := 1128) hx hb dL_law_650 (by decide) (fun c5 => ?_) (fun c5 => ?_)
  · replace hf := it_t c5 hf
    exact b_L_law_1128 C G hX hbl hbA hE hJ hA hR x3 r633.2.1 N P I1 T1 P1 I2 T2 P2 X r633.2.2 L K r647.2 hK18 _ _ _ (lv_sub hl [0, 1, 2, 3] rfl) hP hS hf
  · replace hf := it_f c5 hf
    refine lv_iconst (v := 0) hx hb dL_law_653 (by decide) ?_
    exact hR _ _ _ _ _ dL_law_654 hf hS
def f_L_law_655 (Ls : Nat) (xs : Nat → Int32) (x3 : Int32) (B : Nat → Int32) (N : Tw) (P : Ps) (I1 : Int32) (T1 : Tw) (P1 : Ps) (I2 : Int32) (T2 : Tw) (P2 : Ps) (X : Tx) (R : Tw) (L : Wl) (K : Ch) (M : Ms) (K18 : Int32 → (Nat → Int32) → Tw → Ps → Int32 → Tw → Ps → Int32 → Tw → Ps → Tx → Tw → Wl → Ch → Ms → Option Int32) : Option Int32 :=
  gi ((x3 + (1 : Int32))) Ls <|
  gi ((x3 + (2 : Int32))) Ls <|
  gi ((x3 + (3 : Int32))) Ls <|
  bn (f_X7_loanThen (xs ((x3 + (1 : Int32))).toNatClampNeg) (xs ((x3 + (2 : Int32))).toNatClampNeg) (xs ((x3 + (3 : Int32))).toNatClampNeg) B N R) fun r671 =>
  gi ((x3 + (1 : Int32))) Ls <|
  gi ((x3 + (2 : Int32))) Ls <|
  gi ((x3 + (3 : Int32))) Ls <|
  bn (f_X8_loanThen (xs ((x3 + (1 : Int32))).toNatClampNeg) (xs ((x3 + (2 : Int32))).toNatClampNeg) (xs ((x3 + (3 : Int32))).toNatClampNeg) M) fun r690 =>
  if r671.1 = r690.1 then (
    f_L_law_1128 Ls xs x3 r671.2.1 N P I1 T1 P1 I2 T2 P2 X r671.2.2 L K r690.2 K18
  ) else (
    some (0 : Int32)
  )
set_option maxHeartbeats 4000000 in
set_option maxRecDepth 100000 in
theorem b_L_law_655 {p : Program} {l : Launch} {e : Env} {s : State} {m : MethodId} {args : Array Value} {below : List Frame} {meth : Method} {c : Code} {Q : State → Prop} {dC : Nat → ClassId} {dI : Nat → Nat → Nat} {cs : Nat → ClassId} {A : Nat → Prop} {g : Nat → Nat} {adK : Nat → Nat} {adV : Nat → Nat} {b : Nat} {a : Nat → Nat} {Ls : Nat} {xs : Nat → Int32} {res : Int32} (C : CallFix p m c cL_law 4 s args wsL_law RL) (G : GE dC dI cs s) (hX : va_X b Ls xs s s.heap) (hbl : b < s.heap.size) (hbA : ¬ A b) (hE : SE adK adV A s s.heap) (hJ : adI A (adr g a) 74) (hA : ∀ q : Nat, s.heap.size ≤ q → A q) (hR : RTw p l e s m args below meth c Q A res) (x3 : Int32) (B : Nat → Int32) (N : Tw) (P : Ps) (I1 : Int32) (T1 : Tw) (P1 : Ps) (I2 : Int32) (T2 : Tw) (P2 : Ps) (X : Tx) (R : Tw) (L : Wl) (K : Ch) (M : Ms) {K18 : Int32 → (Nat → Int32) → Tw → Ps → Int32 → Tw → Ps → Int32 → Tw → Ps → Tx → Tw → Wl → Ch → Ms → Option Int32} (hK18 : ∀ (x3 : Int32) (B : Nat → Int32) (N : Tw) (P : Ps) (I1 : Int32) (T1 : Tw) (P1 : Ps) (I2 : Int32) (T2 : Tw) (P2 : Ps) (X : Tx) (R : Tw) (L : Wl) (K : Ch) (M : Ms) (H : Heap) (locs : List Loc) (ls : Array Slot), lv_has ls 4 [(0, .ref b), (1, .ref (g 0)), (2, .ref (a 0)), (3, .int (x3))] → va_P (dC, dI) vwCl (wAll cs g a B N P I1 T1 P1 I2 T2 P2 X R L K M) H → va_S A s.heap H locs → K18 x3 B N P I1 T1 P1 I2 T2 P2 X R L K M = some res → W p l e room_1 s m args below meth c H locs 74 3434 Q (F0 m 18 ls [])) (H : Heap) (locs : List Loc) (ls : Array Slot) (hl : lv_has ls 4 [(0, .ref b), (1, .ref (g 0)), (2, .ref (a 0)), (3, .int (x3))]) (hP : va_P (dC, dI) vwCl (wAll cs g a B N P I1 T1 P1 I2 T2 P2 X R L K M) H) (hS : va_S A s.heap H locs) (hf : f_L_law_655 Ls xs x3 B N P I1 T1 P1 I2 T2 P2 X R L K M K18 = some res) : W p l e room_1 s m args below meth c H locs 74 3434 Q (F0 m 655 ls []) := by
  obtain ⟨hx, hb, hml, hown, hts⟩ := id C
  obtain ⟨hK, hN⟩ := id G
  unfold f_L_law_655 at hf
  refine lv_aload_n hx hb dL_law_655 rfl (lv_at hl 1 rfl) ?_
  refine lv_aload_n hx hb dL_law_656 rfl (lv_at hl 0 rfl) ?_
  refine lv_iload_n hx hb dL_law_657 rfl (lv_at hl 3 rfl) ?_
  refine lv_iconst (v := 1) hx hb dL_law_658 (by decide) ?_
  refine lv_iadd hx hb dL_law_659 ?_
  obtain ⟨hi1, hf⟩ := gi_e hf
  refine va_sld hx hb hX hbl hbA hS hi1 dL_law_660 ?_
  refine lv_aload_n hx hb dL_law_661 rfl (lv_at hl 0 rfl) ?_
  refine lv_iload_n hx hb dL_law_662 rfl (lv_at hl 3 rfl) ?_
  refine lv_iconst (v := 2) hx hb dL_law_663 (by decide) ?_
  refine lv_iadd hx hb dL_law_664 ?_
  obtain ⟨hi2, hf⟩ := gi_e hf
  refine va_sld hx hb hX hbl hbA hS hi2 dL_law_665 ?_
  refine lv_aload_n hx hb dL_law_666 rfl (lv_at hl 0 rfl) ?_
  refine lv_iload_n hx hb dL_law_667 rfl (lv_at hl 3 rfl) ?_
  refine lv_iconst (v := 3) hx hb dL_law_668 (by decide) ?_
  refine lv_iadd hx hb dL_law_669 ?_
  obtain ⟨hi3, hf⟩ := gi_e hf
  refine va_sld hx hb hX hbl hbA hS hi3 dL_law_670 ?_
  obtain ⟨r671, hr671, hf⟩ := bn_e hf
  have hPc : va_P (dC, dI) vwCl (wB g B ++ wT cs (fun i => g (1 + i)) N ++ wF (g 44) (g 45) ++ wT cs (fun i => g (45 + i)) R) _ := (((hP.l.l.l.l.l.l.l.l.l.l.l.l.l.l).app (hP.l.l.l.l.l.l.l.l.l.l.l.l.l.r)).app (hP.l.l.l.l.r)).app (hP.l.l.l.r)
  have hec : ((wB g B ++ wT cs (fun i => g (1 + i)) N ++ wF (g 44) (g 45) ++ wT cs (fun i => g (45 + i)) R)).map Prod.fst = ([0, 1, 2, 3, 4, 5, 6, 7, 8, 9, 10, 11, 44, 45, 46, 47, 48, 49, 50, 51, 52, 53, 54, 55] : List Nat).map (adr g a) := rfl
  have hDc := vD_adr hJ [0, 1, 2, 3, 4, 5, 6, 7, 8, 9, 10, 11, 44, 45, 46, 47, 48, 49, 50, 51, 52, 53, 54, 55] (by decide) (by decide) hec
  have hFc := vF_adr hDc hS hA
  refine va_calli (va_runV (As := [.int ((xs ((x3 + (1 : Int32))).toNatClampNeg)), .int ((xs ((x3 + (2 : Int32))).toNatClampNeg)), .int ((xs ((x3 + (3 : Int32))).toNatClampNeg))]) (rest := []) C (c_X7_loanThen l dC dI cs g H.size B N R (xs ((x3 + (1 : Int32))).toNatClampNeg) (xs ((x3 + (2 : Int32))).toNatClampNeg) (xs ((x3 + (3 : Int32))).toNatClampNeg) r671 hr671) (cwV 3 hts gL_law_X7_loanThen rfl rfl rfl (by decide +kernel) ⟨Nat.le_of_ble_eq_true rfl, Nat.le_of_ble_eq_true rfl⟩) ⟨(fun a U g mk q => ⟨q.1, q.2.1, q.2.2.1, GE.calling q.2.2.2.1, q.2.2.2.2⟩), va_recv hK hPc (ci := 7) (q0 := 0) rfl rfl, (fun U hU hW => ⟨rfl, by rw [hU], by rw [hU]; exact hPc, GE.warm hW G, hDc.weaken (fun _ _ _ _ => trivial)⟩)⟩ rfl rfl hl.1 rfl (lv_room (Nat.le_of_ble_eq_true rfl)) dL_law_671 ⟨Nat.le_of_ble_eq_true rfl, Nat.le_of_ble_eq_true rfl⟩) hS (fun q _ h => hFc q h) hFc (fun q u t H1 locs ht hvm hw hB hz1 hk1 hS => ?_)
  obtain ⟨rfl, rfl⟩ := hw
  obtain ⟨hP1, -⟩ := hB
  rw [ht] at hP1
  have hP : va_P (dC, dI) vwCl (wAll cs g a r671.2.1 N P I1 T1 P1 I2 T2 P2 X r671.2.2 L K M) H1 := ((((((((((((((hP1.l.l.l).app (hP1.l.l.r)).app ((vP_keep hJ (hP.l.l.l.l.l.l.l.l.l.l.l.l.r) [12, 13] [0, 1, 2, 3, 4, 5, 6, 7, 8, 9, 10, 11, 44, 45, 46, 47, 48, 49, 50, 51, 52, 53, 54, 55] rfl hec (by decide) (by decide) hk1))).app ((vP_keep hJ (hP.l.l.l.l.l.l.l.l.l.l.l.r) [14] [0, 1, 2, 3, 4, 5, 6, 7, 8, 9, 10, 11, 44, 45, 46, 47, 48, 49, 50, 51, 52, 53, 54, 55] rfl hec (by decide) (by decide) hk1))).app ((vP_keep hJ (hP.l.l.l.l.l.l.l.l.l.l.r) [15, 16, 17, 18, 19, 20, 21, 22, 23, 24, 25] [0, 1, 2, 3, 4, 5, 6, 7, 8, 9, 10, 11, 44, 45, 46, 47, 48, 49, 50, 51, 52, 53, 54, 55] rfl hec (by decide) (by decide) hk1))).app ((vP_keep hJ (hP.l.l.l.l.l.l.l.l.l.r) [26, 27] [0, 1, 2, 3, 4, 5, 6, 7, 8, 9, 10, 11, 44, 45, 46, 47, 48, 49, 50, 51, 52, 53, 54, 55] rfl hec (by decide) (by decide) hk1))).app ((vP_keep hJ (hP.l.l.l.l.l.l.l.l.r) [28] [0, 1, 2, 3, 4, 5, 6, 7, 8, 9, 10, 11, 44, 45, 46, 47, 48, 49, 50, 51, 52, 53, 54, 55] rfl hec (by decide) (by decide) hk1))).app ((vP_keep hJ (hP.l.l.l.l.l.l.l.r) [29, 30, 31, 32, 33, 34, 35, 36, 37, 38, 39] [0, 1, 2, 3, 4, 5, 6, 7, 8, 9, 10, 11, 44, 45, 46, 47, 48, 49, 50, 51, 52, 53, 54, 55] rfl hec (by decide) (by decide) hk1))).app ((vP_keep hJ (hP.l.l.l.l.l.l.r) [40, 41] [0, 1, 2, 3, 4, 5, 6, 7, 8, 9, 10, 11, 44, 45, 46, 47, 48, 49, 50, 51, 52, 53, 54, 55] rfl hec (by decide) (by decide) hk1))).app ((vP_keep hJ (hP.l.l.l.l.l.r) [42, 43] [0, 1, 2, 3, 4, 5, 6, 7, 8, 9, 10, 11, 44, 45, 46, 47, 48, 49, 50, 51, 52, 53, 54, 55] rfl hec (by decide) (by decide) hk1))).app (hP1.l.r)).app (hP1.r)).app ((vP_keep hJ (hP.l.l.r) [56, 57, 58, 59] [0, 1, 2, 3, 4, 5, 6, 7, 8, 9, 10, 11, 44, 45, 46, 47, 48, 49, 50, 51, 52, 53, 54, 55] rfl hec (by decide) (by decide) hk1))).app ((vP_keep hJ (hP.l.r) [60, 61] [0, 1, 2, 3, 4, 5, 6, 7, 8, 9, 10, 11, 44, 45, 46, 47, 48, 49, 50, 51, 52, 53, 54, 55] rfl hec (by decide) (by decide) hk1))).app ((vP_keep hJ (hP.r) [62, 63, 64, 65, 66, 67, 68, 69, 70, 71, 72, 73] [0, 1, 2, 3, 4, 5, 6, 7, 8, 9, 10, 11, 44, 45, 46, 47, 48, 49, 50, 51, 52, 53, 54, 55] rfl hec (by decide) (by decide) hk1))
  generalize H1 = H at hP hS ⊢
  refine lv_aload_n hx hb dL_law_674 rfl (lv_at hl 2 rfl) ?_
  refine lv_aload_n hx hb dL_law_675 rfl (lv_at hl 0 rfl) ?_
  refine lv_iload_n hx hb dL_law_676 rfl (lv_at hl 3 rfl) ?_
  refine lv_iconst (v := 1) hx hb dL_law_677 (by decide) ?_
  refine lv_iadd hx hb dL_law_678 ?_
  obtain ⟨hi4, hf⟩ := gi_e hf
  refine va_sld hx hb hX hbl hbA hS hi4 dL_law_679 ?_
  refine lv_aload_n hx hb dL_law_680 rfl (lv_at hl 0 rfl) ?_
  refine lv_iload_n hx hb dL_law_681 rfl (lv_at hl 3 rfl) ?_
  refine lv_iconst (v := 2) hx hb dL_law_682 (by decide) ?_
  refine lv_iadd hx hb dL_law_683 ?_
  obtain ⟨hi5, hf⟩ := gi_e hf
  refine va_sld hx hb hX hbl hbA hS hi5 dL_law_684 ?_
  refine lv_aload_n hx hb dL_law_685 rfl (lv_at hl 0 rfl) ?_
  refine lv_iload_n hx hb dL_law_686 rfl (lv_at hl 3 rfl) ?_
  refine lv_iconst (v := 3) hx hb dL_law_687 (by decide) ?_
  refine lv_iadd hx hb dL_law_688 ?_
  obtain ⟨hi6, hf⟩ := gi_e hf
  refine va_sld hx hb hX hbl hbA hS hi6 dL_law_689 ?_
  obtain ⟨r690, hr690, hf⟩ := bn_e hf
  have hPc : va_P (dC, dI) vwCl (wM cs a M) _ := hP.r
  have hec : ((wM cs a M)).map Prod.fst = ([62, 63, 64, 65, 66, 67, 68, 69, 70, 71, 72, 73] : List Nat).map (adr g a) := rfl
  have hDc := vD_adr hJ [62, 63, 64, 65, 66, 67, 68, 69, 70, 71, 72, 73] (by decide) (by decide) hec
  have hFc := vF_adr hDc hS hA
  refine va_calli (va_runV (As := [.int ((xs ((x3 + (1 : Int32))).toNatClampNeg)), .int ((xs ((x3 + (2 : Int32))).toNatClampNeg)), .int ((xs ((x3 + (3 : Int32))).toNatClampNeg))]) (rest := [.int (r671.1)]) C (c_X8_loanThen l dC dI cs a H.size M (xs ((x3 + (1 : Int32))).toNatClampNeg) (xs ((x3 + (2 : Int32))).toNatClampNeg) (xs ((x3 + (3 : Int32))).toNatClampNeg) r690 hr690) (cwV 3 hts gL_law_X8_loanThen rfl rfl rfl (by decide +kernel) ⟨Nat.le_of_ble_eq_true rfl, Nat.le_of_ble_eq_true rfl⟩) ⟨(fun a U g mk q => ⟨q.1, q.2.1, q.2.2.1, GE.calling q.2.2.2.1, q.2.2.2.2⟩), va_recv hK hPc (ci := 8) (q0 := 0) rfl rfl, (fun U hU hW => ⟨rfl, by rw [hU], by rw [hU]; exact hPc, GE.warm hW G, hDc.weaken (fun _ _ _ _ => trivial)⟩)⟩ rfl rfl hl.1 rfl (lv_room (Nat.le_of_ble_eq_true rfl)) dL_law_690 ⟨Nat.le_of_ble_eq_true rfl, Nat.le_of_ble_eq_true rfl⟩) hS (fun q _ h => hFc q h) hFc (fun q u t H1 locs ht hvm hw hB hz1 hk1 hS => ?_)
  obtain ⟨rfl, rfl⟩ := hw
  obtain ⟨hP1, -⟩ := hB
  rw [ht] at hP1
  have hP : va_P (dC, dI) vwCl (wAll cs g a r671.2.1 N P I1 T1 P1 I2 T2 P2 X r671.2.2 L K r690.2) H1 := (((((((((((((((vP_keep hJ (hP.l.l.l.l.l.l.l.l.l.l.l.l.l.l) [0] [62, 63, 64, 65, 66, 67, 68, 69, 70, 71, 72, 73] rfl hec (by decide) (by decide) hk1)).app ((vP_keep hJ (hP.l.l.l.l.l.l.l.l.l.l.l.l.l.r) [1, 2, 3, 4, 5, 6, 7, 8, 9, 10, 11] [62, 63, 64, 65, 66, 67, 68, 69, 70, 71, 72, 73] rfl hec (by decide) (by decide) hk1))).app ((vP_keep hJ (hP.l.l.l.l.l.l.l.l.l.l.l.l.r) [12, 13] [62, 63, 64, 65, 66, 67, 68, 69, 70, 71, 72, 73] rfl hec (by decide) (by decide) hk1))).app ((vP_keep hJ (hP.l.l.l.l.l.l.l.l.l.l.l.r) [14] [62, 63, 64, 65, 66, 67, 68, 69, 70, 71, 72, 73] rfl hec (by decide) (by decide) hk1))).app ((vP_keep hJ (hP.l.l.l.l.l.l.l.l.l.l.r) [15, 16, 17, 18, 19, 20, 21, 22, 23, 24, 25] [62, 63, 64, 65, 66, 67, 68, 69, 70, 71, 72, 73] rfl hec (by decide) (by decide) hk1))).app ((vP_keep hJ (hP.l.l.l.l.l.l.l.l.l.r) [26, 27] [62, 63, 64, 65, 66, 67, 68, 69, 70, 71, 72, 73] rfl hec (by decide) (by decide) hk1))).app ((vP_keep hJ (hP.l.l.l.l.l.l.l.l.r) [28] [62, 63, 64, 65, 66, 67, 68, 69, 70, 71, 72, 73] rfl hec (by decide) (by decide) hk1))).app ((vP_keep hJ (hP.l.l.l.l.l.l.l.r) [29, 30, 31, 32, 33, 34, 35, 36, 37, 38, 39] [62, 63, 64, 65, 66, 67, 68, 69, 70, 71, 72, 73] rfl hec (by decide) (by decide) hk1))).app ((vP_keep hJ (hP.l.l.l.l.l.l.r) [40, 41] [62, 63, 64, 65, 66, 67, 68, 69, 70, 71, 72, 73] rfl hec (by decide) (by decide) hk1))).app ((vP_keep hJ (hP.l.l.l.l.l.r) [42, 43] [62, 63, 64, 65, 66, 67, 68, 69, 70, 71, 72, 73] rfl hec (by decide) (by decide) hk1))).app ((vP_keep hJ (hP.l.l.l.l.r) [44] [62, 63, 64, 65, 66, 67, 68, 69, 70, 71, 72, 73] rfl hec (by decide) (by decide) hk1))).app ((vP_keep hJ (hP.l.l.l.r) [45, 46, 47, 48, 49, 50, 51, 52, 53, 54, 55] [62, 63, 64, 65, 66, 67, 68, 69, 70, 71, 72, 73] rfl hec (by decide) (by decide) hk1))).app ((vP_keep hJ (hP.l.l.r) [56, 57, 58, 59] [62, 63, 64, 65, 66, 67, 68, 69, 70, 71, 72, 73] rfl hec (by decide) (by decide) hk1))).app ((vP_keep hJ (hP.l.r) [60, 61] [62, 63, 64, 65, 66, 67, 68, 69, 70, 71, 72, 73] rfl hec (by decide) (by decide) hk1))).app (hP1)
  generalize H1 = H at hP hS ⊢
  refine lv_icmp_eq (tgt := 1128) hx hb dL_law_693 (by decide) (fun c7 => ?_) (fun c7 => ?_)
  · replace hf := it_t c7 hf
    exact b_L_law_1128 C G hX hbl hbA hE hJ hA hR x3 r671.2.1 N P I1 T1 P1 I2 T2 P2 X r671.2.2 L K r690.2 hK18 _ _ _ (lv_sub hl [0, 1, 2, 3] rfl) hP hS hf
  · replace hf := it_f c7 hf
    refine lv_iconst (v := 0) hx hb dL_law_696 (by decide) ?_
    exact hR _ _ _ _ _ dL_law_697 hf hS
def f_L_law_698 (Ls : Nat) (xs : Nat → Int32) (x3 : Int32) (B : Nat → Int32) (N : Tw) (P : Ps) (I1 : Int32) (T1 : Tw) (P1 : Ps) (I2 : Int32) (T2 : Tw) (P2 : Ps) (X : Tx) (R : Tw) (L : Wl) (K : Ch) (M : Ms) (K18 : Int32 → (Nat → Int32) → Tw → Ps → Int32 → Tw → Ps → Int32 → Tw → Ps → Tx → Tw → Wl → Ch → Ms → Option Int32) : Option Int32 :=
  gi ((x3 + (1 : Int32))) Ls <|
  bn (f_X7_lack (xs ((x3 + (1 : Int32))).toNatClampNeg) B N R) fun r704 =>
  gi ((x3 + (1 : Int32))) Ls <|
  bn (f_X8_lack (xs ((x3 + (1 : Int32))).toNatClampNeg) M) fun r713 =>
  if r704.1 = r713.1 then (
    f_L_law_1128 Ls xs x3 r704.2.1 N P I1 T1 P1 I2 T2 P2 X r704.2.2 L K r713.2 K18
  ) else (
    some (0 : Int32)
  )
set_option maxHeartbeats 4000000 in
set_option maxRecDepth 100000 in
theorem b_L_law_698 {p : Program} {l : Launch} {e : Env} {s : State} {m : MethodId} {args : Array Value} {below : List Frame} {meth : Method} {c : Code} {Q : State → Prop} {dC : Nat → ClassId} {dI : Nat → Nat → Nat} {cs : Nat → ClassId} {A : Nat → Prop} {g : Nat → Nat} {adK : Nat → Nat} {adV : Nat → Nat} {b : Nat} {a : Nat → Nat} {Ls : Nat} {xs : Nat → Int32} {res : Int32} (C : CallFix p m c cL_law 4 s args wsL_law RL) (G : GE dC dI cs s) (hX : va_X b Ls xs s s.heap) (hbl : b < s.heap.size) (hbA : ¬ A b) (hE : SE adK adV A s s.heap) (hJ : adI A (adr g a) 74) (hA : ∀ q : Nat, s.heap.size ≤ q → A q) (hR : RTw p l e s m args below meth c Q A res) (x3 : Int32) (B : Nat → Int32) (N : Tw) (P : Ps) (I1 : Int32) (T1 : Tw) (P1 : Ps) (I2 : Int32) (T2 : Tw) (P2 : Ps) (X : Tx) (R : Tw) (L : Wl) (K : Ch) (M : Ms) {K18 : Int32 → (Nat → Int32) → Tw → Ps → Int32 → Tw → Ps → Int32 → Tw → Ps → Tx → Tw → Wl → Ch → Ms → Option Int32} (hK18 : ∀ (x3 : Int32) (B : Nat → Int32) (N : Tw) (P : Ps) (I1 : Int32) (T1 : Tw) (P1 : Ps) (I2 : Int32) (T2 : Tw) (P2 : Ps) (X : Tx) (R : Tw) (L : Wl) (K : Ch) (M : Ms) (H : Heap) (locs : List Loc) (ls : Array Slot), lv_has ls 4 [(0, .ref b), (1, .ref (g 0)), (2, .ref (a 0)), (3, .int (x3))] → va_P (dC, dI) vwCl (wAll cs g a B N P I1 T1 P1 I2 T2 P2 X R L K M) H → va_S A s.heap H locs → K18 x3 B N P I1 T1 P1 I2 T2 P2 X R L K M = some res → W p l e room_1 s m args below meth c H locs 74 3434 Q (F0 m 18 ls [])) (H : Heap) (locs : List Loc) (ls : Array Slot) (hl : lv_has ls 4 [(0, .ref b), (1, .ref (g 0)), (2, .ref (a 0)), (3, .int (x3))]) (hP : va_P (dC, dI) vwCl (wAll cs g a B N P I1 T1 P1 I2 T2 P2 X R L K M) H) (hS : va_S A s.heap H locs) (hf : f_L_law_698 Ls xs x3 B N P I1 T1 P1 I2 T2 P2 X R L K M K18 = some res) : W p l e room_1 s m args below meth c H locs 74 3434 Q (F0 m 698 ls []) := by
  obtain ⟨hx, hb, hml, hown, hts⟩ := id C
  obtain ⟨hK, hN⟩ := id G
  unfold f_L_law_698 at hf
  refine lv_aload_n hx hb dL_law_698 rfl (lv_at hl 1 rfl) ?_
  refine lv_aload_n hx hb dL_law_699 rfl (lv_at hl 0 rfl) ?_
  refine lv_iload_n hx hb dL_law_700 rfl (lv_at hl 3 rfl) ?_
  refine lv_iconst (v := 1) hx hb dL_law_701 (by decide) ?_
  refine lv_iadd hx hb dL_law_702 ?_
  obtain ⟨hi1, hf⟩ := gi_e hf
  refine va_sld hx hb hX hbl hbA hS hi1 dL_law_703 ?_
  obtain ⟨r704, hr704, hf⟩ := bn_e hf
  have hPc : va_P (dC, dI) vwCl (wB g B ++ wT cs (fun i => g (1 + i)) N ++ wF (g 44) (g 45) ++ wT cs (fun i => g (45 + i)) R) _ := (((hP.l.l.l.l.l.l.l.l.l.l.l.l.l.l).app (hP.l.l.l.l.l.l.l.l.l.l.l.l.l.r)).app (hP.l.l.l.l.r)).app (hP.l.l.l.r)
  have hec : ((wB g B ++ wT cs (fun i => g (1 + i)) N ++ wF (g 44) (g 45) ++ wT cs (fun i => g (45 + i)) R)).map Prod.fst = ([0, 1, 2, 3, 4, 5, 6, 7, 8, 9, 10, 11, 44, 45, 46, 47, 48, 49, 50, 51, 52, 53, 54, 55] : List Nat).map (adr g a) := rfl
  have hDc := vD_adr hJ [0, 1, 2, 3, 4, 5, 6, 7, 8, 9, 10, 11, 44, 45, 46, 47, 48, 49, 50, 51, 52, 53, 54, 55] (by decide) (by decide) hec
  have hFc := vF_adr hDc hS hA
  refine va_calli (va_runV (As := [.int ((xs ((x3 + (1 : Int32))).toNatClampNeg))]) (rest := []) C (c_X7_lack l dC dI cs g H.size B N R (xs ((x3 + (1 : Int32))).toNatClampNeg) r704 hr704) (cwV 1 hts gL_law_X7_lack rfl rfl rfl (by decide +kernel) ⟨Nat.le_of_ble_eq_true rfl, Nat.le_of_ble_eq_true rfl⟩) ⟨(fun a U g mk q => ⟨q.1, q.2.1, q.2.2.1, GE.calling q.2.2.2.1, q.2.2.2.2⟩), va_recv hK hPc (ci := 7) (q0 := 0) rfl rfl, (fun U hU hW => ⟨rfl, by rw [hU], by rw [hU]; exact hPc, GE.warm hW G, hDc.weaken (fun _ _ _ _ => trivial)⟩)⟩ rfl rfl hl.1 rfl (lv_room (Nat.le_of_ble_eq_true rfl)) dL_law_704 ⟨Nat.le_of_ble_eq_true rfl, Nat.le_of_ble_eq_true rfl⟩) hS (fun q _ h => hFc q h) hFc (fun q u t H1 locs ht hvm hw hB hz1 hk1 hS => ?_)
  obtain ⟨rfl, rfl⟩ := hw
  obtain ⟨hP1, -⟩ := hB
  rw [ht] at hP1
  have hP : va_P (dC, dI) vwCl (wAll cs g a r704.2.1 N P I1 T1 P1 I2 T2 P2 X r704.2.2 L K M) H1 := ((((((((((((((hP1.l.l.l).app (hP1.l.l.r)).app ((vP_keep hJ (hP.l.l.l.l.l.l.l.l.l.l.l.l.r) [12, 13] [0, 1, 2, 3, 4, 5, 6, 7, 8, 9, 10, 11, 44, 45, 46, 47, 48, 49, 50, 51, 52, 53, 54, 55] rfl hec (by decide) (by decide) hk1))).app ((vP_keep hJ (hP.l.l.l.l.l.l.l.l.l.l.l.r) [14] [0, 1, 2, 3, 4, 5, 6, 7, 8, 9, 10, 11, 44, 45, 46, 47, 48, 49, 50, 51, 52, 53, 54, 55] rfl hec (by decide) (by decide) hk1))).app ((vP_keep hJ (hP.l.l.l.l.l.l.l.l.l.l.r) [15, 16, 17, 18, 19, 20, 21, 22, 23, 24, 25] [0, 1, 2, 3, 4, 5, 6, 7, 8, 9, 10, 11, 44, 45, 46, 47, 48, 49, 50, 51, 52, 53, 54, 55] rfl hec (by decide) (by decide) hk1))).app ((vP_keep hJ (hP.l.l.l.l.l.l.l.l.l.r) [26, 27] [0, 1, 2, 3, 4, 5, 6, 7, 8, 9, 10, 11, 44, 45, 46, 47, 48, 49, 50, 51, 52, 53, 54, 55] rfl hec (by decide) (by decide) hk1))).app ((vP_keep hJ (hP.l.l.l.l.l.l.l.l.r) [28] [0, 1, 2, 3, 4, 5, 6, 7, 8, 9, 10, 11, 44, 45, 46, 47, 48, 49, 50, 51, 52, 53, 54, 55] rfl hec (by decide) (by decide) hk1))).app ((vP_keep hJ (hP.l.l.l.l.l.l.l.r) [29, 30, 31, 32, 33, 34, 35, 36, 37, 38, 39] [0, 1, 2, 3, 4, 5, 6, 7, 8, 9, 10, 11, 44, 45, 46, 47, 48, 49, 50, 51, 52, 53, 54, 55] rfl hec (by decide) (by decide) hk1))).app ((vP_keep hJ (hP.l.l.l.l.l.l.r) [40, 41] [0, 1, 2, 3, 4, 5, 6, 7, 8, 9, 10, 11, 44, 45, 46, 47, 48, 49, 50, 51, 52, 53, 54, 55] rfl hec (by decide) (by decide) hk1))).app ((vP_keep hJ (hP.l.l.l.l.l.r) [42, 43] [0, 1, 2, 3, 4, 5, 6, 7, 8, 9, 10, 11, 44, 45, 46, 47, 48, 49, 50, 51, 52, 53, 54, 55] rfl hec (by decide) (by decide) hk1))).app (hP1.l.r)).app (hP1.r)).app ((vP_keep hJ (hP.l.l.r) [56, 57, 58, 59] [0, 1, 2, 3, 4, 5, 6, 7, 8, 9, 10, 11, 44, 45, 46, 47, 48, 49, 50, 51, 52, 53, 54, 55] rfl hec (by decide) (by decide) hk1))).app ((vP_keep hJ (hP.l.r) [60, 61] [0, 1, 2, 3, 4, 5, 6, 7, 8, 9, 10, 11, 44, 45, 46, 47, 48, 49, 50, 51, 52, 53, 54, 55] rfl hec (by decide) (by decide) hk1))).app ((vP_keep hJ (hP.r) [62, 63, 64, 65, 66, 67, 68, 69, 70, 71, 72, 73] [0, 1, 2, 3, 4, 5, 6, 7, 8, 9, 10, 11, 44, 45, 46, 47, 48, 49, 50, 51, 52, 53, 54, 55] rfl hec (by decide) (by decide) hk1))
  generalize H1 = H at hP hS ⊢
  refine lv_aload_n hx hb dL_law_707 rfl (lv_at hl 2 rfl) ?_
  refine lv_aload_n hx hb dL_law_708 rfl (lv_at hl 0 rfl) ?_
  refine lv_iload_n hx hb dL_law_709 rfl (lv_at hl 3 rfl) ?_
  refine lv_iconst (v := 1) hx hb dL_law_710 (by decide) ?_
  refine lv_iadd hx hb dL_law_711 ?_
  obtain ⟨hi2, hf⟩ := gi_e hf
  refine va_sld hx hb hX hbl hbA hS hi2 dL_law_712 ?_
  obtain ⟨r713, hr713, hf⟩ := bn_e hf
  have hPc : va_P (dC, dI) vwCl (wM cs a M) _ := hP.r
  have hec : ((wM cs a M)).map Prod.fst = ([62, 63, 64, 65, 66, 67, 68, 69, 70, 71, 72, 73] : List Nat).map (adr g a) := rfl
  have hDc := vD_adr hJ [62, 63, 64, 65, 66, 67, 68, 69, 70, 71, 72, 73] (by decide) (by decide) hec
  have hFc := vF_adr hDc hS hA
  refine va_calli (va_runV (As := [.int ((xs ((x3 + (1 : Int32))).toNatClampNeg))]) (rest := [.int (r704.1)]) C (c_X8_lack l dC dI cs a H.size M (xs ((x3 + (1 : Int32))).toNatClampNeg) r713 hr713) (cwV 1 hts gL_law_X8_lack rfl rfl rfl (by decide +kernel) ⟨Nat.le_of_ble_eq_true rfl, Nat.le_of_ble_eq_true rfl⟩) ⟨(fun a U g mk q => ⟨q.1, q.2.1, q.2.2.1, GE.calling q.2.2.2.1, q.2.2.2.2⟩), va_recv hK hPc (ci := 8) (q0 := 0) rfl rfl, (fun U hU hW => ⟨rfl, by rw [hU], by rw [hU]; exact hPc, GE.warm hW G, hDc.weaken (fun _ _ _ _ => trivial)⟩)⟩ rfl rfl hl.1 rfl (lv_room (Nat.le_of_ble_eq_true rfl)) dL_law_713 ⟨Nat.le_of_ble_eq_true rfl, Nat.le_of_ble_eq_true rfl⟩) hS (fun q _ h => hFc q h) hFc (fun q u t H1 locs ht hvm hw hB hz1 hk1 hS => ?_)
  obtain ⟨rfl, rfl⟩ := hw
  obtain ⟨hP1, -⟩ := hB
  rw [ht] at hP1
  have hP : va_P (dC, dI) vwCl (wAll cs g a r704.2.1 N P I1 T1 P1 I2 T2 P2 X r704.2.2 L K r713.2) H1 := (((((((((((((((vP_keep hJ (hP.l.l.l.l.l.l.l.l.l.l.l.l.l.l) [0] [62, 63, 64, 65, 66, 67, 68, 69, 70, 71, 72, 73] rfl hec (by decide) (by decide) hk1)).app ((vP_keep hJ (hP.l.l.l.l.l.l.l.l.l.l.l.l.l.r) [1, 2, 3, 4, 5, 6, 7, 8, 9, 10, 11] [62, 63, 64, 65, 66, 67, 68, 69, 70, 71, 72, 73] rfl hec (by decide) (by decide) hk1))).app ((vP_keep hJ (hP.l.l.l.l.l.l.l.l.l.l.l.l.r) [12, 13] [62, 63, 64, 65, 66, 67, 68, 69, 70, 71, 72, 73] rfl hec (by decide) (by decide) hk1))).app ((vP_keep hJ (hP.l.l.l.l.l.l.l.l.l.l.l.r) [14] [62, 63, 64, 65, 66, 67, 68, 69, 70, 71, 72, 73] rfl hec (by decide) (by decide) hk1))).app ((vP_keep hJ (hP.l.l.l.l.l.l.l.l.l.l.r) [15, 16, 17, 18, 19, 20, 21, 22, 23, 24, 25] [62, 63, 64, 65, 66, 67, 68, 69, 70, 71, 72, 73] rfl hec (by decide) (by decide) hk1))).app ((vP_keep hJ (hP.l.l.l.l.l.l.l.l.l.r) [26, 27] [62, 63, 64, 65, 66, 67, 68, 69, 70, 71, 72, 73] rfl hec (by decide) (by decide) hk1))).app ((vP_keep hJ (hP.l.l.l.l.l.l.l.l.r) [28] [62, 63, 64, 65, 66, 67, 68, 69, 70, 71, 72, 73] rfl hec (by decide) (by decide) hk1))).app ((vP_keep hJ (hP.l.l.l.l.l.l.l.r) [29, 30, 31, 32, 33, 34, 35, 36, 37, 38, 39] [62, 63, 64, 65, 66, 67, 68, 69, 70, 71, 72, 73] rfl hec (by decide) (by decide) hk1))).app ((vP_keep hJ (hP.l.l.l.l.l.l.r) [40, 41] [62, 63, 64, 65, 66, 67, 68, 69, 70, 71, 72, 73] rfl hec (by decide) (by decide) hk1))).app ((vP_keep hJ (hP.l.l.l.l.l.r) [42, 43] [62, 63, 64, 65, 66, 67, 68, 69, 70, 71, 72, 73] rfl hec (by decide) (by decide) hk1))).app ((vP_keep hJ (hP.l.l.l.l.r) [44] [62, 63, 64, 65, 66, 67, 68, 69, 70, 71, 72, 73] rfl hec (by decide) (by decide) hk1))).app ((vP_keep hJ (hP.l.l.l.r) [45, 46, 47, 48, 49, 50, 51, 52, 53, 54, 55] [62, 63, 64, 65, 66, 67, 68, 69, 70, 71, 72, 73] rfl hec (by decide) (by decide) hk1))).app ((vP_keep hJ (hP.l.l.r) [56, 57, 58, 59] [62, 63, 64, 65, 66, 67, 68, 69, 70, 71, 72, 73] rfl hec (by decide) (by decide) hk1))).app ((vP_keep hJ (hP.l.r) [60, 61] [62, 63, 64, 65, 66, 67, 68, 69, 70, 71, 72, 73] rfl hec (by decide) (by decide) hk1))).app (hP1)
  generalize H1 = H at hP hS ⊢
  refine lv_icmp_eq (tgt := 1128) hx hb dL_law_716 (by decide) (fun c3 => ?_) (fun c3 => ?_)
  · replace hf := it_t c3 hf
    exact b_L_law_1128 C G hX hbl hbA hE hJ hA hR x3 r704.2.1 N P I1 T1 P1 I2 T2 P2 X r704.2.2 L K r713.2 hK18 _ _ _ (lv_sub hl [0, 1, 2, 3] rfl) hP hS hf
  · replace hf := it_f c3 hf
    refine lv_iconst (v := 0) hx hb dL_law_719 (by decide) ?_
    exact hR _ _ _ _ _ dL_law_720 hf hS
def f_L_law_721 (Ls : Nat) (xs : Nat → Int32) (x3 : Int32) (B : Nat → Int32) (N : Tw) (P : Ps) (I1 : Int32) (T1 : Tw) (P1 : Ps) (I2 : Int32) (T2 : Tw) (P2 : Ps) (X : Tx) (R : Tw) (L : Wl) (K : Ch) (M : Ms) (K18 : Int32 → (Nat → Int32) → Tw → Ps → Int32 → Tw → Ps → Int32 → Tw → Ps → Tx → Tw → Wl → Ch → Ms → Option Int32) : Option Int32 :=
  gi ((x3 + (1 : Int32))) Ls <|
  bn (f_X7_holds (xs ((x3 + (1 : Int32))).toNatClampNeg) B N R) fun r727 =>
  gi ((x3 + (1 : Int32))) Ls <|
  bn (f_X8_holds (xs ((x3 + (1 : Int32))).toNatClampNeg) M) fun r736 =>
  if r727.1 = r736.1 then (
    f_L_law_1128 Ls xs x3 r727.2.1 N P I1 T1 P1 I2 T2 P2 X r727.2.2 L K r736.2 K18
  ) else (
    some (0 : Int32)
  )
set_option maxHeartbeats 4000000 in
set_option maxRecDepth 100000 in
theorem b_L_law_721 {p : Program} {l : Launch} {e : Env} {s : State} {m : MethodId} {args : Array Value} {below : List Frame} {meth : Method} {c : Code} {Q : State → Prop} {dC : Nat → ClassId} {dI : Nat → Nat → Nat} {cs : Nat → ClassId} {A : Nat → Prop} {g : Nat → Nat} {adK : Nat → Nat} {adV : Nat → Nat} {b : Nat} {a : Nat → Nat} {Ls : Nat} {xs : Nat → Int32} {res : Int32} (C : CallFix p m c cL_law 4 s args wsL_law RL) (G : GE dC dI cs s) (hX : va_X b Ls xs s s.heap) (hbl : b < s.heap.size) (hbA : ¬ A b) (hE : SE adK adV A s s.heap) (hJ : adI A (adr g a) 74) (hA : ∀ q : Nat, s.heap.size ≤ q → A q) (hR : RTw p l e s m args below meth c Q A res) (x3 : Int32) (B : Nat → Int32) (N : Tw) (P : Ps) (I1 : Int32) (T1 : Tw) (P1 : Ps) (I2 : Int32) (T2 : Tw) (P2 : Ps) (X : Tx) (R : Tw) (L : Wl) (K : Ch) (M : Ms) {K18 : Int32 → (Nat → Int32) → Tw → Ps → Int32 → Tw → Ps → Int32 → Tw → Ps → Tx → Tw → Wl → Ch → Ms → Option Int32} (hK18 : ∀ (x3 : Int32) (B : Nat → Int32) (N : Tw) (P : Ps) (I1 : Int32) (T1 : Tw) (P1 : Ps) (I2 : Int32) (T2 : Tw) (P2 : Ps) (X : Tx) (R : Tw) (L : Wl) (K : Ch) (M : Ms) (H : Heap) (locs : List Loc) (ls : Array Slot), lv_has ls 4 [(0, .ref b), (1, .ref (g 0)), (2, .ref (a 0)), (3, .int (x3))] → va_P (dC, dI) vwCl (wAll cs g a B N P I1 T1 P1 I2 T2 P2 X R L K M) H → va_S A s.heap H locs → K18 x3 B N P I1 T1 P1 I2 T2 P2 X R L K M = some res → W p l e room_1 s m args below meth c H locs 74 3434 Q (F0 m 18 ls [])) (H : Heap) (locs : List Loc) (ls : Array Slot) (hl : lv_has ls 4 [(0, .ref b), (1, .ref (g 0)), (2, .ref (a 0)), (3, .int (x3))]) (hP : va_P (dC, dI) vwCl (wAll cs g a B N P I1 T1 P1 I2 T2 P2 X R L K M) H) (hS : va_S A s.heap H locs) (hf : f_L_law_721 Ls xs x3 B N P I1 T1 P1 I2 T2 P2 X R L K M K18 = some res) : W p l e room_1 s m args below meth c H locs 74 3434 Q (F0 m 721 ls []) := by
  obtain ⟨hx, hb, hml, hown, hts⟩ := id C
  obtain ⟨hK, hN⟩ := id G
  unfold f_L_law_721 at hf
  refine lv_aload_n hx hb dL_law_721 rfl (lv_at hl 1 rfl) ?_
  refine lv_aload_n hx hb dL_law_722 rfl (lv_at hl 0 rfl) ?_
  refine lv_iload_n hx hb dL_law_723 rfl (lv_at hl 3 rfl) ?_
  refine lv_iconst (v := 1) hx hb dL_law_724 (by decide) ?_
  refine lv_iadd hx hb dL_law_725 ?_
  obtain ⟨hi1, hf⟩ := gi_e hf
  refine va_sld hx hb hX hbl hbA hS hi1 dL_law_726 ?_
  obtain ⟨r727, hr727, hf⟩ := bn_e hf
  have hPc : va_P (dC, dI) vwCl (wB g B ++ wT cs (fun i => g (1 + i)) N ++ wF (g 44) (g 45) ++ wT cs (fun i => g (45 + i)) R) _ := (((hP.l.l.l.l.l.l.l.l.l.l.l.l.l.l).app (hP.l.l.l.l.l.l.l.l.l.l.l.l.l.r)).app (hP.l.l.l.l.r)).app (hP.l.l.l.r)
  have hec : ((wB g B ++ wT cs (fun i => g (1 + i)) N ++ wF (g 44) (g 45) ++ wT cs (fun i => g (45 + i)) R)).map Prod.fst = ([0, 1, 2, 3, 4, 5, 6, 7, 8, 9, 10, 11, 44, 45, 46, 47, 48, 49, 50, 51, 52, 53, 54, 55] : List Nat).map (adr g a) := rfl
  have hDc := vD_adr hJ [0, 1, 2, 3, 4, 5, 6, 7, 8, 9, 10, 11, 44, 45, 46, 47, 48, 49, 50, 51, 52, 53, 54, 55] (by decide) (by decide) hec
  have hFc := vF_adr hDc hS hA
  refine va_calli (va_runV (As := [.int ((xs ((x3 + (1 : Int32))).toNatClampNeg))]) (rest := []) C (c_X7_holds l dC dI cs g H.size B N R (xs ((x3 + (1 : Int32))).toNatClampNeg) r727 hr727) (cwV 1 hts gL_law_X7_holds rfl rfl rfl (by decide +kernel) ⟨Nat.le_of_ble_eq_true rfl, Nat.le_of_ble_eq_true rfl⟩) ⟨(fun a U g mk q => ⟨q.1, q.2.1, q.2.2.1, GE.calling q.2.2.2.1, q.2.2.2.2⟩), va_recv hK hPc (ci := 7) (q0 := 0) rfl rfl, (fun U hU hW => ⟨rfl, by rw [hU], by rw [hU]; exact hPc, GE.warm hW G, hDc.weaken (fun _ _ _ _ => trivial)⟩)⟩ rfl rfl hl.1 rfl (lv_room (Nat.le_of_ble_eq_true rfl)) dL_law_727 ⟨Nat.le_of_ble_eq_true rfl, Nat.le_of_ble_eq_true rfl⟩) hS (fun q _ h => hFc q h) hFc (fun q u t H1 locs ht hvm hw hB hz1 hk1 hS => ?_)
  obtain ⟨rfl, rfl⟩ := hw
  obtain ⟨hP1, -⟩ := hB
  rw [ht] at hP1
  have hP : va_P (dC, dI) vwCl (wAll cs g a r727.2.1 N P I1 T1 P1 I2 T2 P2 X r727.2.2 L K M) H1 := ((((((((((((((hP1.l.l.l).app (hP1.l.l.r)).app ((vP_keep hJ (hP.l.l.l.l.l.l.l.l.l.l.l.l.r) [12, 13] [0, 1, 2, 3, 4, 5, 6, 7, 8, 9, 10, 11, 44, 45, 46, 47, 48, 49, 50, 51, 52, 53, 54, 55] rfl hec (by decide) (by decide) hk1))).app ((vP_keep hJ (hP.l.l.l.l.l.l.l.l.l.l.l.r) [14] [0, 1, 2, 3, 4, 5, 6, 7, 8, 9, 10, 11, 44, 45, 46, 47, 48, 49, 50, 51, 52, 53, 54, 55] rfl hec (by decide) (by decide) hk1))).app ((vP_keep hJ (hP.l.l.l.l.l.l.l.l.l.l.r) [15, 16, 17, 18, 19, 20, 21, 22, 23, 24, 25] [0, 1, 2, 3, 4, 5, 6, 7, 8, 9, 10, 11, 44, 45, 46, 47, 48, 49, 50, 51, 52, 53, 54, 55] rfl hec (by decide) (by decide) hk1))).app ((vP_keep hJ (hP.l.l.l.l.l.l.l.l.l.r) [26, 27] [0, 1, 2, 3, 4, 5, 6, 7, 8, 9, 10, 11, 44, 45, 46, 47, 48, 49, 50, 51, 52, 53, 54, 55] rfl hec (by decide) (by decide) hk1))).app ((vP_keep hJ (hP.l.l.l.l.l.l.l.l.r) [28] [0, 1, 2, 3, 4, 5, 6, 7, 8, 9, 10, 11, 44, 45, 46, 47, 48, 49, 50, 51, 52, 53, 54, 55] rfl hec (by decide) (by decide) hk1))).app ((vP_keep hJ (hP.l.l.l.l.l.l.l.r) [29, 30, 31, 32, 33, 34, 35, 36, 37, 38, 39] [0, 1, 2, 3, 4, 5, 6, 7, 8, 9, 10, 11, 44, 45, 46, 47, 48, 49, 50, 51, 52, 53, 54, 55] rfl hec (by decide) (by decide) hk1))).app ((vP_keep hJ (hP.l.l.l.l.l.l.r) [40, 41] [0, 1, 2, 3, 4, 5, 6, 7, 8, 9, 10, 11, 44, 45, 46, 47, 48, 49, 50, 51, 52, 53, 54, 55] rfl hec (by decide) (by decide) hk1))).app ((vP_keep hJ (hP.l.l.l.l.l.r) [42, 43] [0, 1, 2, 3, 4, 5, 6, 7, 8, 9, 10, 11, 44, 45, 46, 47, 48, 49, 50, 51, 52, 53, 54, 55] rfl hec (by decide) (by decide) hk1))).app (hP1.l.r)).app (hP1.r)).app ((vP_keep hJ (hP.l.l.r) [56, 57, 58, 59] [0, 1, 2, 3, 4, 5, 6, 7, 8, 9, 10, 11, 44, 45, 46, 47, 48, 49, 50, 51, 52, 53, 54, 55] rfl hec (by decide) (by decide) hk1))).app ((vP_keep hJ (hP.l.r) [60, 61] [0, 1, 2, 3, 4, 5, 6, 7, 8, 9, 10, 11, 44, 45, 46, 47, 48, 49, 50, 51, 52, 53, 54, 55] rfl hec (by decide) (by decide) hk1))).app ((vP_keep hJ (hP.r) [62, 63, 64, 65, 66, 67, 68, 69, 70, 71, 72, 73] [0, 1, 2, 3, 4, 5, 6, 7, 8, 9, 10, 11, 44, 45, 46, 47, 48, 49, 50, 51, 52, 53, 54, 55] rfl hec (by decide) (by decide) hk1))
  generalize H1 = H at hP hS ⊢
  refine lv_aload_n hx hb dL_law_730 rfl (lv_at hl 2 rfl) ?_
  refine lv_aload_n hx hb dL_law_731 rfl (lv_at hl 0 rfl) ?_
  refine lv_iload_n hx hb dL_law_732 rfl (lv_at hl 3 rfl) ?_
  refine lv_iconst (v := 1) hx hb dL_law_733 (by decide) ?_
  refine lv_iadd hx hb dL_law_734 ?_
  obtain ⟨hi2, hf⟩ := gi_e hf
  refine va_sld hx hb hX hbl hbA hS hi2 dL_law_735 ?_
  obtain ⟨r736, hr736, hf⟩ := bn_e hf
  have hPc : va_P (dC, dI) vwCl (wM cs a M) _ := hP.r
  have hec : ((wM cs a M)).map Prod.fst = ([62, 63, 64, 65, 66, 67, 68, 69, 70, 71, 72, 73] : List Nat).map (adr g a) := rfl
  have hDc := vD_adr hJ [62, 63, 64, 65, 66, 67, 68, 69, 70, 71, 72, 73] (by decide) (by decide) hec
  have hFc := vF_adr hDc hS hA
  refine va_calli (va_runV (As := [.int ((xs ((x3 + (1 : Int32))).toNatClampNeg))]) (rest := [.int (r727.1)]) C (c_X8_holds l dC dI cs a H.size M (xs ((x3 + (1 : Int32))).toNatClampNeg) r736 hr736) (cwV 1 hts gL_law_X8_holds rfl rfl rfl (by decide +kernel) ⟨Nat.le_of_ble_eq_true rfl, Nat.le_of_ble_eq_true rfl⟩) ⟨(fun a U g mk q => ⟨q.1, q.2.1, q.2.2.1, GE.calling q.2.2.2.1, q.2.2.2.2⟩), va_recv hK hPc (ci := 8) (q0 := 0) rfl rfl, (fun U hU hW => ⟨rfl, by rw [hU], by rw [hU]; exact hPc, GE.warm hW G, hDc.weaken (fun _ _ _ _ => trivial)⟩)⟩ rfl rfl hl.1 rfl (lv_room (Nat.le_of_ble_eq_true rfl)) dL_law_736 ⟨Nat.le_of_ble_eq_true rfl, Nat.le_of_ble_eq_true rfl⟩) hS (fun q _ h => hFc q h) hFc (fun q u t H1 locs ht hvm hw hB hz1 hk1 hS => ?_)
  obtain ⟨rfl, rfl⟩ := hw
  obtain ⟨hP1, -⟩ := hB
  rw [ht] at hP1
  have hP : va_P (dC, dI) vwCl (wAll cs g a r727.2.1 N P I1 T1 P1 I2 T2 P2 X r727.2.2 L K r736.2) H1 := (((((((((((((((vP_keep hJ (hP.l.l.l.l.l.l.l.l.l.l.l.l.l.l) [0] [62, 63, 64, 65, 66, 67, 68, 69, 70, 71, 72, 73] rfl hec (by decide) (by decide) hk1)).app ((vP_keep hJ (hP.l.l.l.l.l.l.l.l.l.l.l.l.l.r) [1, 2, 3, 4, 5, 6, 7, 8, 9, 10, 11] [62, 63, 64, 65, 66, 67, 68, 69, 70, 71, 72, 73] rfl hec (by decide) (by decide) hk1))).app ((vP_keep hJ (hP.l.l.l.l.l.l.l.l.l.l.l.l.r) [12, 13] [62, 63, 64, 65, 66, 67, 68, 69, 70, 71, 72, 73] rfl hec (by decide) (by decide) hk1))).app ((vP_keep hJ (hP.l.l.l.l.l.l.l.l.l.l.l.r) [14] [62, 63, 64, 65, 66, 67, 68, 69, 70, 71, 72, 73] rfl hec (by decide) (by decide) hk1))).app ((vP_keep hJ (hP.l.l.l.l.l.l.l.l.l.l.r) [15, 16, 17, 18, 19, 20, 21, 22, 23, 24, 25] [62, 63, 64, 65, 66, 67, 68, 69, 70, 71, 72, 73] rfl hec (by decide) (by decide) hk1))).app ((vP_keep hJ (hP.l.l.l.l.l.l.l.l.l.r) [26, 27] [62, 63, 64, 65, 66, 67, 68, 69, 70, 71, 72, 73] rfl hec (by decide) (by decide) hk1))).app ((vP_keep hJ (hP.l.l.l.l.l.l.l.l.r) [28] [62, 63, 64, 65, 66, 67, 68, 69, 70, 71, 72, 73] rfl hec (by decide) (by decide) hk1))).app ((vP_keep hJ (hP.l.l.l.l.l.l.l.r) [29, 30, 31, 32, 33, 34, 35, 36, 37, 38, 39] [62, 63, 64, 65, 66, 67, 68, 69, 70, 71, 72, 73] rfl hec (by decide) (by decide) hk1))).app ((vP_keep hJ (hP.l.l.l.l.l.l.r) [40, 41] [62, 63, 64, 65, 66, 67, 68, 69, 70, 71, 72, 73] rfl hec (by decide) (by decide) hk1))).app ((vP_keep hJ (hP.l.l.l.l.l.r) [42, 43] [62, 63, 64, 65, 66, 67, 68, 69, 70, 71, 72, 73] rfl hec (by decide) (by decide) hk1))).app ((vP_keep hJ (hP.l.l.l.l.r) [44] [62, 63, 64, 65, 66, 67, 68, 69, 70, 71, 72, 73] rfl hec (by decide) (by decide) hk1))).app ((vP_keep hJ (hP.l.l.l.r) [45, 46, 47, 48, 49, 50, 51, 52, 53, 54, 55] [62, 63, 64, 65, 66, 67, 68, 69, 70, 71, 72, 73] rfl hec (by decide) (by decide) hk1))).app ((vP_keep hJ (hP.l.l.r) [56, 57, 58, 59] [62, 63, 64, 65, 66, 67, 68, 69, 70, 71, 72, 73] rfl hec (by decide) (by decide) hk1))).app ((vP_keep hJ (hP.l.r) [60, 61] [62, 63, 64, 65, 66, 67, 68, 69, 70, 71, 72, 73] rfl hec (by decide) (by decide) hk1))).app (hP1)
  generalize H1 = H at hP hS ⊢
  refine lv_icmp_eq (tgt := 1128) hx hb dL_law_739 (by decide) (fun c3 => ?_) (fun c3 => ?_)
  · replace hf := it_t c3 hf
    exact b_L_law_1128 C G hX hbl hbA hE hJ hA hR x3 r727.2.1 N P I1 T1 P1 I2 T2 P2 X r727.2.2 L K r736.2 hK18 _ _ _ (lv_sub hl [0, 1, 2, 3] rfl) hP hS hf
  · replace hf := it_f c3 hf
    refine lv_iconst (v := 0) hx hb dL_law_742 (by decide) ?_
    exact hR _ _ _ _ _ dL_law_743 hf hS
def f_L_law_744 (Ls : Nat) (xs : Nat → Int32) (x3 : Int32) (B : Nat → Int32) (N : Tw) (P : Ps) (I1 : Int32) (T1 : Tw) (P1 : Ps) (I2 : Int32) (T2 : Tw) (P2 : Ps) (X : Tx) (R : Tw) (L : Wl) (K : Ch) (M : Ms) (K18 : Int32 → (Nat → Int32) → Tw → Ps → Int32 → Tw → Ps → Int32 → Tw → Ps → Tx → Tw → Wl → Ch → Ms → Option Int32) : Option Int32 :=
  gi ((x3 + (1 : Int32))) Ls <|
  gi ((x3 + (2 : Int32))) Ls <|
  bn (f_X7_best (xs ((x3 + (1 : Int32))).toNatClampNeg) (xs ((x3 + (2 : Int32))).toNatClampNeg) B N R) fun r755 =>
  gi ((x3 + (1 : Int32))) Ls <|
  gi ((x3 + (2 : Int32))) Ls <|
  bn (f_X8_best (xs ((x3 + (1 : Int32))).toNatClampNeg) (xs ((x3 + (2 : Int32))).toNatClampNeg) M) fun r769 =>
  if r755.1 = r769.1 then (
    f_L_law_1128 Ls xs x3 r755.2.1 N P I1 T1 P1 I2 T2 P2 X r755.2.2 L K r769.2 K18
  ) else (
    some (0 : Int32)
  )
set_option maxHeartbeats 4000000 in
set_option maxRecDepth 100000 in
theorem b_L_law_744 {p : Program} {l : Launch} {e : Env} {s : State} {m : MethodId} {args : Array Value} {below : List Frame} {meth : Method} {c : Code} {Q : State → Prop} {dC : Nat → ClassId} {dI : Nat → Nat → Nat} {cs : Nat → ClassId} {A : Nat → Prop} {g : Nat → Nat} {adK : Nat → Nat} {adV : Nat → Nat} {b : Nat} {a : Nat → Nat} {Ls : Nat} {xs : Nat → Int32} {res : Int32} (C : CallFix p m c cL_law 4 s args wsL_law RL) (G : GE dC dI cs s) (hX : va_X b Ls xs s s.heap) (hbl : b < s.heap.size) (hbA : ¬ A b) (hE : SE adK adV A s s.heap) (hJ : adI A (adr g a) 74) (hA : ∀ q : Nat, s.heap.size ≤ q → A q) (hR : RTw p l e s m args below meth c Q A res) (x3 : Int32) (B : Nat → Int32) (N : Tw) (P : Ps) (I1 : Int32) (T1 : Tw) (P1 : Ps) (I2 : Int32) (T2 : Tw) (P2 : Ps) (X : Tx) (R : Tw) (L : Wl) (K : Ch) (M : Ms) {K18 : Int32 → (Nat → Int32) → Tw → Ps → Int32 → Tw → Ps → Int32 → Tw → Ps → Tx → Tw → Wl → Ch → Ms → Option Int32} (hK18 : ∀ (x3 : Int32) (B : Nat → Int32) (N : Tw) (P : Ps) (I1 : Int32) (T1 : Tw) (P1 : Ps) (I2 : Int32) (T2 : Tw) (P2 : Ps) (X : Tx) (R : Tw) (L : Wl) (K : Ch) (M : Ms) (H : Heap) (locs : List Loc) (ls : Array Slot), lv_has ls 4 [(0, .ref b), (1, .ref (g 0)), (2, .ref (a 0)), (3, .int (x3))] → va_P (dC, dI) vwCl (wAll cs g a B N P I1 T1 P1 I2 T2 P2 X R L K M) H → va_S A s.heap H locs → K18 x3 B N P I1 T1 P1 I2 T2 P2 X R L K M = some res → W p l e room_1 s m args below meth c H locs 74 3434 Q (F0 m 18 ls [])) (H : Heap) (locs : List Loc) (ls : Array Slot) (hl : lv_has ls 4 [(0, .ref b), (1, .ref (g 0)), (2, .ref (a 0)), (3, .int (x3))]) (hP : va_P (dC, dI) vwCl (wAll cs g a B N P I1 T1 P1 I2 T2 P2 X R L K M) H) (hS : va_S A s.heap H locs) (hf : f_L_law_744 Ls xs x3 B N P I1 T1 P1 I2 T2 P2 X R L K M K18 = some res) : W p l e room_1 s m args below meth c H locs 74 3434 Q (F0 m 744 ls []) := by
  obtain ⟨hx, hb, hml, hown, hts⟩ := id C
  obtain ⟨hK, hN⟩ := id G
  unfold f_L_law_744 at hf
  refine lv_aload_n hx hb dL_law_744 rfl (lv_at hl 1 rfl) ?_
  refine lv_aload_n hx hb dL_law_745 rfl (lv_at hl 0 rfl) ?_
  refine lv_iload_n hx hb dL_law_746 rfl (lv_at hl 3 rfl) ?_
  refine lv_iconst (v := 1) hx hb dL_law_747 (by decide) ?_
  refine lv_iadd hx hb dL_law_748 ?_
  obtain ⟨hi1, hf⟩ := gi_e hf
  refine va_sld hx hb hX hbl hbA hS hi1 dL_law_749 ?_
  refine lv_aload_n hx hb dL_law_750 rfl (lv_at hl 0 rfl) ?_
  refine lv_iload_n hx hb dL_law_751 rfl (lv_at hl 3 rfl) ?_
  refine lv_iconst (v := 2) hx hb dL_law_752 (by decide) ?_
  refine lv_iadd hx hb dL_law_753 ?_
  obtain ⟨hi2, hf⟩ := gi_e hf
  refine va_sld hx hb hX hbl hbA hS hi2 dL_law_754 ?_
  obtain ⟨r755, hr755, hf⟩ := bn_e hf
  have hPc : va_P (dC, dI) vwCl (wB g B ++ wT cs (fun i => g (1 + i)) N ++ wF (g 44) (g 45) ++ wT cs (fun i => g (45 + i)) R) _ := (((hP.l.l.l.l.l.l.l.l.l.l.l.l.l.l).app (hP.l.l.l.l.l.l.l.l.l.l.l.l.l.r)).app (hP.l.l.l.l.r)).app (hP.l.l.l.r)
  have hec : ((wB g B ++ wT cs (fun i => g (1 + i)) N ++ wF (g 44) (g 45) ++ wT cs (fun i => g (45 + i)) R)).map Prod.fst = ([0, 1, 2, 3, 4, 5, 6, 7, 8, 9, 10, 11, 44, 45, 46, 47, 48, 49, 50, 51, 52, 53, 54, 55] : List Nat).map (adr g a) := rfl
  have hDc := vD_adr hJ [0, 1, 2, 3, 4, 5, 6, 7, 8, 9, 10, 11, 44, 45, 46, 47, 48, 49, 50, 51, 52, 53, 54, 55] (by decide) (by decide) hec
  have hFc := vF_adr hDc hS hA
  refine va_calli (va_runV (As := [.int ((xs ((x3 + (1 : Int32))).toNatClampNeg)), .int ((xs ((x3 + (2 : Int32))).toNatClampNeg))]) (rest := []) C (c_X7_best l dC dI cs g H.size B N R (xs ((x3 + (1 : Int32))).toNatClampNeg) (xs ((x3 + (2 : Int32))).toNatClampNeg) r755 hr755) (cwV 2 hts gL_law_X7_best rfl rfl rfl (by decide +kernel) ⟨Nat.le_of_ble_eq_true rfl, Nat.le_of_ble_eq_true rfl⟩) ⟨(fun a U g mk q => ⟨q.1, q.2.1, q.2.2.1, GE.calling q.2.2.2.1, q.2.2.2.2⟩), va_recv hK hPc (ci := 7) (q0 := 0) rfl rfl, (fun U hU hW => ⟨rfl, by rw [hU], by rw [hU]; exact hPc, GE.warm hW G, hDc.weaken (fun _ _ _ _ => trivial)⟩)⟩ rfl rfl hl.1 rfl (lv_room (Nat.le_of_ble_eq_true rfl)) dL_law_755 ⟨Nat.le_of_ble_eq_true rfl, Nat.le_of_ble_eq_true rfl⟩) hS (fun q _ h => hFc q h) hFc (fun q u t H1 locs ht hvm hw hB hz1 hk1 hS => ?_)
  obtain ⟨rfl, rfl⟩ := hw
  obtain ⟨hP1, -⟩ := hB
  rw [ht] at hP1
  have hP : va_P (dC, dI) vwCl (wAll cs g a r755.2.1 N P I1 T1 P1 I2 T2 P2 X r755.2.2 L K M) H1 := ((((((((((((((hP1.l.l.l).app (hP1.l.l.r)).app ((vP_keep hJ (hP.l.l.l.l.l.l.l.l.l.l.l.l.r) [12, 13] [0, 1, 2, 3, 4, 5, 6, 7, 8, 9, 10, 11, 44, 45, 46, 47, 48, 49, 50, 51, 52, 53, 54, 55] rfl hec (by decide) (by decide) hk1))).app ((vP_keep hJ (hP.l.l.l.l.l.l.l.l.l.l.l.r) [14] [0, 1, 2, 3, 4, 5, 6, 7, 8, 9, 10, 11, 44, 45, 46, 47, 48, 49, 50, 51, 52, 53, 54, 55] rfl hec (by decide) (by decide) hk1))).app ((vP_keep hJ (hP.l.l.l.l.l.l.l.l.l.l.r) [15, 16, 17, 18, 19, 20, 21, 22, 23, 24, 25] [0, 1, 2, 3, 4, 5, 6, 7, 8, 9, 10, 11, 44, 45, 46, 47, 48, 49, 50, 51, 52, 53, 54, 55] rfl hec (by decide) (by decide) hk1))).app ((vP_keep hJ (hP.l.l.l.l.l.l.l.l.l.r) [26, 27] [0, 1, 2, 3, 4, 5, 6, 7, 8, 9, 10, 11, 44, 45, 46, 47, 48, 49, 50, 51, 52, 53, 54, 55] rfl hec (by decide) (by decide) hk1))).app ((vP_keep hJ (hP.l.l.l.l.l.l.l.l.r) [28] [0, 1, 2, 3, 4, 5, 6, 7, 8, 9, 10, 11, 44, 45, 46, 47, 48, 49, 50, 51, 52, 53, 54, 55] rfl hec (by decide) (by decide) hk1))).app ((vP_keep hJ (hP.l.l.l.l.l.l.l.r) [29, 30, 31, 32, 33, 34, 35, 36, 37, 38, 39] [0, 1, 2, 3, 4, 5, 6, 7, 8, 9, 10, 11, 44, 45, 46, 47, 48, 49, 50, 51, 52, 53, 54, 55] rfl hec (by decide) (by decide) hk1))).app ((vP_keep hJ (hP.l.l.l.l.l.l.r) [40, 41] [0, 1, 2, 3, 4, 5, 6, 7, 8, 9, 10, 11, 44, 45, 46, 47, 48, 49, 50, 51, 52, 53, 54, 55] rfl hec (by decide) (by decide) hk1))).app ((vP_keep hJ (hP.l.l.l.l.l.r) [42, 43] [0, 1, 2, 3, 4, 5, 6, 7, 8, 9, 10, 11, 44, 45, 46, 47, 48, 49, 50, 51, 52, 53, 54, 55] rfl hec (by decide) (by decide) hk1))).app (hP1.l.r)).app (hP1.r)).app ((vP_keep hJ (hP.l.l.r) [56, 57, 58, 59] [0, 1, 2, 3, 4, 5, 6, 7, 8, 9, 10, 11, 44, 45, 46, 47, 48, 49, 50, 51, 52, 53, 54, 55] rfl hec (by decide) (by decide) hk1))).app ((vP_keep hJ (hP.l.r) [60, 61] [0, 1, 2, 3, 4, 5, 6, 7, 8, 9, 10, 11, 44, 45, 46, 47, 48, 49, 50, 51, 52, 53, 54, 55] rfl hec (by decide) (by decide) hk1))).app ((vP_keep hJ (hP.r) [62, 63, 64, 65, 66, 67, 68, 69, 70, 71, 72, 73] [0, 1, 2, 3, 4, 5, 6, 7, 8, 9, 10, 11, 44, 45, 46, 47, 48, 49, 50, 51, 52, 53, 54, 55] rfl hec (by decide) (by decide) hk1))
  generalize H1 = H at hP hS ⊢
  refine lv_aload_n hx hb dL_law_758 rfl (lv_at hl 2 rfl) ?_
  refine lv_aload_n hx hb dL_law_759 rfl (lv_at hl 0 rfl) ?_
  refine lv_iload_n hx hb dL_law_760 rfl (lv_at hl 3 rfl) ?_
  refine lv_iconst (v := 1) hx hb dL_law_761 (by decide) ?_
  refine lv_iadd hx hb dL_law_762 ?_
  obtain ⟨hi3, hf⟩ := gi_e hf
  refine va_sld hx hb hX hbl hbA hS hi3 dL_law_763 ?_
  refine lv_aload_n hx hb dL_law_764 rfl (lv_at hl 0 rfl) ?_
  refine lv_iload_n hx hb dL_law_765 rfl (lv_at hl 3 rfl) ?_
  refine lv_iconst (v := 2) hx hb dL_law_766 (by decide) ?_
  refine lv_iadd hx hb dL_law_767 ?_
  obtain ⟨hi4, hf⟩ := gi_e hf
  refine va_sld hx hb hX hbl hbA hS hi4 dL_law_768 ?_
  obtain ⟨r769, hr769, hf⟩ := bn_e hf
  have hPc : va_P (dC, dI) vwCl (wM cs a M) _ := hP.r
  have hec : ((wM cs a M)).map Prod.fst = ([62, 63, 64, 65, 66, 67, 68, 69, 70, 71, 72, 73] : List Nat).map (adr g a) := rfl
  have hDc := vD_adr hJ [62, 63, 64, 65, 66, 67, 68, 69, 70, 71, 72, 73] (by decide) (by decide) hec
  have hFc := vF_adr hDc hS hA
  refine va_calli (va_runV (As := [.int ((xs ((x3 + (1 : Int32))).toNatClampNeg)), .int ((xs ((x3 + (2 : Int32))).toNatClampNeg))]) (rest := [.int (r755.1)]) C (c_X8_best l dC dI cs a H.size M (xs ((x3 + (1 : Int32))).toNatClampNeg) (xs ((x3 + (2 : Int32))).toNatClampNeg) r769 hr769) (cwV 2 hts gL_law_X8_best rfl rfl rfl (by decide +kernel) ⟨Nat.le_of_ble_eq_true rfl, Nat.le_of_ble_eq_true rfl⟩) ⟨(fun a U g mk q => ⟨q.1, q.2.1, q.2.2.1, GE.calling q.2.2.2.1, q.2.2.2.2⟩), va_recv hK hPc (ci := 8) (q0 := 0) rfl rfl, (fun U hU hW => ⟨rfl, by rw [hU], by rw [hU]; exact hPc, GE.warm hW G, hDc.weaken (fun _ _ _ _ => trivial)⟩)⟩ rfl rfl hl.1 rfl (lv_room (Nat.le_of_ble_eq_true rfl)) dL_law_769 ⟨Nat.le_of_ble_eq_true rfl, Nat.le_of_ble_eq_true rfl⟩) hS (fun q _ h => hFc q h) hFc (fun q u t H1 locs ht hvm hw hB hz1 hk1 hS => ?_)
  obtain ⟨rfl, rfl⟩ := hw
  obtain ⟨hP1, -⟩ := hB
  rw [ht] at hP1
  have hP : va_P (dC, dI) vwCl (wAll cs g a r755.2.1 N P I1 T1 P1 I2 T2 P2 X r755.2.2 L K r769.2) H1 := (((((((((((((((vP_keep hJ (hP.l.l.l.l.l.l.l.l.l.l.l.l.l.l) [0] [62, 63, 64, 65, 66, 67, 68, 69, 70, 71, 72, 73] rfl hec (by decide) (by decide) hk1)).app ((vP_keep hJ (hP.l.l.l.l.l.l.l.l.l.l.l.l.l.r) [1, 2, 3, 4, 5, 6, 7, 8, 9, 10, 11] [62, 63, 64, 65, 66, 67, 68, 69, 70, 71, 72, 73] rfl hec (by decide) (by decide) hk1))).app ((vP_keep hJ (hP.l.l.l.l.l.l.l.l.l.l.l.l.r) [12, 13] [62, 63, 64, 65, 66, 67, 68, 69, 70, 71, 72, 73] rfl hec (by decide) (by decide) hk1))).app ((vP_keep hJ (hP.l.l.l.l.l.l.l.l.l.l.l.r) [14] [62, 63, 64, 65, 66, 67, 68, 69, 70, 71, 72, 73] rfl hec (by decide) (by decide) hk1))).app ((vP_keep hJ (hP.l.l.l.l.l.l.l.l.l.l.r) [15, 16, 17, 18, 19, 20, 21, 22, 23, 24, 25] [62, 63, 64, 65, 66, 67, 68, 69, 70, 71, 72, 73] rfl hec (by decide) (by decide) hk1))).app ((vP_keep hJ (hP.l.l.l.l.l.l.l.l.l.r) [26, 27] [62, 63, 64, 65, 66, 67, 68, 69, 70, 71, 72, 73] rfl hec (by decide) (by decide) hk1))).app ((vP_keep hJ (hP.l.l.l.l.l.l.l.l.r) [28] [62, 63, 64, 65, 66, 67, 68, 69, 70, 71, 72, 73] rfl hec (by decide) (by decide) hk1))).app ((vP_keep hJ (hP.l.l.l.l.l.l.l.r) [29, 30, 31, 32, 33, 34, 35, 36, 37, 38, 39] [62, 63, 64, 65, 66, 67, 68, 69, 70, 71, 72, 73] rfl hec (by decide) (by decide) hk1))).app ((vP_keep hJ (hP.l.l.l.l.l.l.r) [40, 41] [62, 63, 64, 65, 66, 67, 68, 69, 70, 71, 72, 73] rfl hec (by decide) (by decide) hk1))).app ((vP_keep hJ (hP.l.l.l.l.l.r) [42, 43] [62, 63, 64, 65, 66, 67, 68, 69, 70, 71, 72, 73] rfl hec (by decide) (by decide) hk1))).app ((vP_keep hJ (hP.l.l.l.l.r) [44] [62, 63, 64, 65, 66, 67, 68, 69, 70, 71, 72, 73] rfl hec (by decide) (by decide) hk1))).app ((vP_keep hJ (hP.l.l.l.r) [45, 46, 47, 48, 49, 50, 51, 52, 53, 54, 55] [62, 63, 64, 65, 66, 67, 68, 69, 70, 71, 72, 73] rfl hec (by decide) (by decide) hk1))).app ((vP_keep hJ (hP.l.l.r) [56, 57, 58, 59] [62, 63, 64, 65, 66, 67, 68, 69, 70, 71, 72, 73] rfl hec (by decide) (by decide) hk1))).app ((vP_keep hJ (hP.l.r) [60, 61] [62, 63, 64, 65, 66, 67, 68, 69, 70, 71, 72, 73] rfl hec (by decide) (by decide) hk1))).app (hP1)
  generalize H1 = H at hP hS ⊢
  refine lv_icmp_eq (tgt := 1128) hx hb dL_law_772 (by decide) (fun c5 => ?_) (fun c5 => ?_)
  · replace hf := it_t c5 hf
    exact b_L_law_1128 C G hX hbl hbA hE hJ hA hR x3 r755.2.1 N P I1 T1 P1 I2 T2 P2 X r755.2.2 L K r769.2 hK18 _ _ _ (lv_sub hl [0, 1, 2, 3] rfl) hP hS hf
  · replace hf := it_f c5 hf
    refine lv_iconst (v := 0) hx hb dL_law_775 (by decide) ?_
    exact hR _ _ _ _ _ dL_law_776 hf hS
def f_L_law_777 (Ls : Nat) (xs : Nat → Int32) (x3 : Int32) (B : Nat → Int32) (N : Tw) (P : Ps) (I1 : Int32) (T1 : Tw) (P1 : Ps) (I2 : Int32) (T2 : Tw) (P2 : Ps) (X : Tx) (R : Tw) (L : Wl) (K : Ch) (M : Ms) (K18 : Int32 → (Nat → Int32) → Tw → Ps → Int32 → Tw → Ps → Int32 → Tw → Ps → Tx → Tw → Wl → Ch → Ms → Option Int32) : Option Int32 :=
  bn (f_X7_joins B N) fun r778 =>
  bn (f_X8_joins M) fun r782 =>
  if r778 = r782 then (
    f_L_law_1128 Ls xs x3 B N P I1 T1 P1 I2 T2 P2 X R L K M K18
  ) else (
    some (0 : Int32)
  )
set_option maxHeartbeats 4000000 in
set_option maxRecDepth 100000 in
theorem b_L_law_777 {p : Program} {l : Launch} {e : Env} {s : State} {m : MethodId} {args : Array Value} {below : List Frame} {meth : Method} {c : Code} {Q : State → Prop} {dC : Nat → ClassId} {dI : Nat → Nat → Nat} {cs : Nat → ClassId} {A : Nat → Prop} {g : Nat → Nat} {adK : Nat → Nat} {adV : Nat → Nat} {b : Nat} {a : Nat → Nat} {Ls : Nat} {xs : Nat → Int32} {res : Int32} (C : CallFix p m c cL_law 4 s args wsL_law RL) (G : GE dC dI cs s) (hX : va_X b Ls xs s s.heap) (hbl : b < s.heap.size) (hbA : ¬ A b) (hE : SE adK adV A s s.heap) (hJ : adI A (adr g a) 74) (hA : ∀ q : Nat, s.heap.size ≤ q → A q) (hR : RTw p l e s m args below meth c Q A res) (x3 : Int32) (B : Nat → Int32) (N : Tw) (P : Ps) (I1 : Int32) (T1 : Tw) (P1 : Ps) (I2 : Int32) (T2 : Tw) (P2 : Ps) (X : Tx) (R : Tw) (L : Wl) (K : Ch) (M : Ms) {K18 : Int32 → (Nat → Int32) → Tw → Ps → Int32 → Tw → Ps → Int32 → Tw → Ps → Tx → Tw → Wl → Ch → Ms → Option Int32} (hK18 : ∀ (x3 : Int32) (B : Nat → Int32) (N : Tw) (P : Ps) (I1 : Int32) (T1 : Tw) (P1 : Ps) (I2 : Int32) (T2 : Tw) (P2 : Ps) (X : Tx) (R : Tw) (L : Wl) (K : Ch) (M : Ms) (H : Heap) (locs : List Loc) (ls : Array Slot), lv_has ls 4 [(0, .ref b), (1, .ref (g 0)), (2, .ref (a 0)), (3, .int (x3))] → va_P (dC, dI) vwCl (wAll cs g a B N P I1 T1 P1 I2 T2 P2 X R L K M) H → va_S A s.heap H locs → K18 x3 B N P I1 T1 P1 I2 T2 P2 X R L K M = some res → W p l e room_1 s m args below meth c H locs 74 3434 Q (F0 m 18 ls [])) (H : Heap) (locs : List Loc) (ls : Array Slot) (hl : lv_has ls 4 [(0, .ref b), (1, .ref (g 0)), (2, .ref (a 0)), (3, .int (x3))]) (hP : va_P (dC, dI) vwCl (wAll cs g a B N P I1 T1 P1 I2 T2 P2 X R L K M) H) (hS : va_S A s.heap H locs) (hf : f_L_law_777 Ls xs x3 B N P I1 T1 P1 I2 T2 P2 X R L K M K18 = some res) : W p l e room_1 s m args below meth c H locs 74 3434 Q (F0 m 777 ls []) := by
  obtain ⟨hx, hb, hml, hown, hts⟩ := id C
  obtain ⟨hK, hN⟩ := id G
  unfold f_L_law_777 at hf
  refine lv_aload_n hx hb dL_law_777 rfl (lv_at hl 1 rfl) ?_
  obtain ⟨r778, hr778, hf⟩ := bn_e hf
  have hPc : va_P (dC, dI) vwCl (wB g B ++ wT cs (fun i => g (1 + i)) N) _ := (hP.l.l.l.l.l.l.l.l.l.l.l.l.l.l).app (hP.l.l.l.l.l.l.l.l.l.l.l.l.l.r)
  refine vp_callSi (W.runV (As := []) (rest := []) C (c_X7_joins l dC dI cs g B N r778 hr778) (cwV 0 hts gL_law_X7_joins rfl rfl rfl (by decide +kernel) ⟨Nat.le_of_ble_eq_true rfl, Nat.le_of_ble_eq_true rfl⟩) ⟨(fun a U g mk q => ⟨q.1, q.2.1, GE.calling q.2.2⟩), va_recv hK hPc (ci := 7) (q0 := 0) rfl rfl, (fun U hU hW => ⟨rfl, by rw [hU]; exact hPc, GE.warm hW G⟩)⟩ rfl rfl hl.1 rfl (lv_room (Nat.le_of_ble_eq_true rfl)) dL_law_778 ⟨Nat.le_of_ble_eq_true rfl, Nat.le_of_ble_eq_true rfl⟩) (fun qr778 hqr778 => ?_)
  obtain rfl := hqr778.symm
  refine lv_aload_n hx hb dL_law_781 rfl (lv_at hl 2 rfl) ?_
  obtain ⟨r782, hr782, hf⟩ := bn_e hf
  have hPc : va_P (dC, dI) vwCl (wM cs a M) _ := hP.r
  refine vp_callSi (W.runV (As := []) (rest := [.int (r778)]) C (c_X8_joins l dC dI cs a M r782 hr782) (cwV 0 hts gL_law_X8_joins rfl rfl rfl (by decide +kernel) ⟨Nat.le_of_ble_eq_true rfl, Nat.le_of_ble_eq_true rfl⟩) ⟨(fun a U g mk q => ⟨q.1, q.2.1, GE.calling q.2.2⟩), va_recv hK hPc (ci := 8) (q0 := 0) rfl rfl, (fun U hU hW => ⟨rfl, by rw [hU]; exact hPc, GE.warm hW G⟩)⟩ rfl rfl hl.1 rfl (lv_room (Nat.le_of_ble_eq_true rfl)) dL_law_782 ⟨Nat.le_of_ble_eq_true rfl, Nat.le_of_ble_eq_true rfl⟩) (fun qr782 hqr782 => ?_)
  obtain rfl := hqr782.symm
  refine lv_icmp_eq (tgt := 1128) hx hb dL_law_785 (by decide) (fun c1 => ?_) (fun c1 => ?_)
  · replace hf := it_t c1 hf
    exact b_L_law_1128 C G hX hbl hbA hE hJ hA hR x3 B N P I1 T1 P1 I2 T2 P2 X R L K M hK18 _ _ _ (lv_sub hl [0, 1, 2, 3] rfl) hP hS hf
  · replace hf := it_f c1 hf
    refine lv_iconst (v := 0) hx hb dL_law_788 (by decide) ?_
    exact hR _ _ _ _ _ dL_law_789 hf hS
def f_L_law_790 (Ls : Nat) (xs : Nat → Int32) (x3 : Int32) (B : Nat → Int32) (N : Tw) (P : Ps) (I1 : Int32) (T1 : Tw) (P1 : Ps) (I2 : Int32) (T2 : Tw) (P2 : Ps) (X : Tx) (R : Tw) (L : Wl) (K : Ch) (M : Ms) (K18 : Int32 → (Nat → Int32) → Tw → Ps → Int32 → Tw → Ps → Int32 → Tw → Ps → Tx → Tw → Wl → Ch → Ms → Option Int32) : Option Int32 :=
  gi ((x3 + (1 : Int32))) Ls <|
  bn (f_X7_run (xs ((x3 + (1 : Int32))).toNatClampNeg) B N) fun r796 =>
  gi ((x3 + (1 : Int32))) Ls <|
  bn (f_X8_run (xs ((x3 + (1 : Int32))).toNatClampNeg) M) fun r805 =>
  if r796.1 = r805.1 then (
    f_L_law_1128 Ls xs x3 r796.2 N P I1 T1 P1 I2 T2 P2 X R L K r805.2 K18
  ) else (
    some (0 : Int32)
  )
set_option maxHeartbeats 4000000 in
set_option maxRecDepth 100000 in
theorem b_L_law_790 {p : Program} {l : Launch} {e : Env} {s : State} {m : MethodId} {args : Array Value} {below : List Frame} {meth : Method} {c : Code} {Q : State → Prop} {dC : Nat → ClassId} {dI : Nat → Nat → Nat} {cs : Nat → ClassId} {A : Nat → Prop} {g : Nat → Nat} {adK : Nat → Nat} {adV : Nat → Nat} {b : Nat} {a : Nat → Nat} {Ls : Nat} {xs : Nat → Int32} {res : Int32} (C : CallFix p m c cL_law 4 s args wsL_law RL) (G : GE dC dI cs s) (hX : va_X b Ls xs s s.heap) (hbl : b < s.heap.size) (hbA : ¬ A b) (hE : SE adK adV A s s.heap) (hJ : adI A (adr g a) 74) (hA : ∀ q : Nat, s.heap.size ≤ q → A q) (hR : RTw p l e s m args below meth c Q A res) (x3 : Int32) (B : Nat → Int32) (N : Tw) (P : Ps) (I1 : Int32) (T1 : Tw) (P1 : Ps) (I2 : Int32) (T2 : Tw) (P2 : Ps) (X : Tx) (R : Tw) (L : Wl) (K : Ch) (M : Ms) {K18 : Int32 → (Nat → Int32) → Tw → Ps → Int32 → Tw → Ps → Int32 → Tw → Ps → Tx → Tw → Wl → Ch → Ms → Option Int32} (hK18 : ∀ (x3 : Int32) (B : Nat → Int32) (N : Tw) (P : Ps) (I1 : Int32) (T1 : Tw) (P1 : Ps) (I2 : Int32) (T2 : Tw) (P2 : Ps) (X : Tx) (R : Tw) (L : Wl) (K : Ch) (M : Ms) (H : Heap) (locs : List Loc) (ls : Array Slot), lv_has ls 4 [(0, .ref b), (1, .ref (g 0)), (2, .ref (a 0)), (3, .int (x3))] → va_P (dC, dI) vwCl (wAll cs g a B N P I1 T1 P1 I2 T2 P2 X R L K M) H → va_S A s.heap H locs → K18 x3 B N P I1 T1 P1 I2 T2 P2 X R L K M = some res → W p l e room_1 s m args below meth c H locs 74 3434 Q (F0 m 18 ls [])) (H : Heap) (locs : List Loc) (ls : Array Slot) (hl : lv_has ls 4 [(0, .ref b), (1, .ref (g 0)), (2, .ref (a 0)), (3, .int (x3))]) (hP : va_P (dC, dI) vwCl (wAll cs g a B N P I1 T1 P1 I2 T2 P2 X R L K M) H) (hS : va_S A s.heap H locs) (hf : f_L_law_790 Ls xs x3 B N P I1 T1 P1 I2 T2 P2 X R L K M K18 = some res) : W p l e room_1 s m args below meth c H locs 74 3434 Q (F0 m 790 ls []) := by
  obtain ⟨hx, hb, hml, hown, hts⟩ := id C
  obtain ⟨hK, hN⟩ := id G
  unfold f_L_law_790 at hf
  refine lv_aload_n hx hb dL_law_790 rfl (lv_at hl 1 rfl) ?_
  refine lv_aload_n hx hb dL_law_791 rfl (lv_at hl 0 rfl) ?_
  refine lv_iload_n hx hb dL_law_792 rfl (lv_at hl 3 rfl) ?_
  refine lv_iconst (v := 1) hx hb dL_law_793 (by decide) ?_
  refine lv_iadd hx hb dL_law_794 ?_
  obtain ⟨hi1, hf⟩ := gi_e hf
  refine va_sld hx hb hX hbl hbA hS hi1 dL_law_795 ?_
  obtain ⟨r796, hr796, hf⟩ := bn_e hf
  have hPc : va_P (dC, dI) vwCl (wB g B ++ wT cs (fun i => g (1 + i)) N) _ := (hP.l.l.l.l.l.l.l.l.l.l.l.l.l.l).app (hP.l.l.l.l.l.l.l.l.l.l.l.l.l.r)
  have hec : ((wB g B ++ wT cs (fun i => g (1 + i)) N)).map Prod.fst = ([0, 1, 2, 3, 4, 5, 6, 7, 8, 9, 10, 11] : List Nat).map (adr g a) := rfl
  have hDc := vD_adr hJ [0, 1, 2, 3, 4, 5, 6, 7, 8, 9, 10, 11] (by decide) (by decide) hec
  have hFc := vF_adr hDc hS hA
  refine va_calli (va_runV (As := [.int ((xs ((x3 + (1 : Int32))).toNatClampNeg))]) (rest := []) C (c_X7_run l dC dI cs g H.size B N (xs ((x3 + (1 : Int32))).toNatClampNeg) r796 hr796) (cwV 1 hts gL_law_X7_run rfl rfl rfl (by decide +kernel) ⟨Nat.le_of_ble_eq_true rfl, Nat.le_of_ble_eq_true rfl⟩) ⟨(fun a U g mk q => ⟨q.1, q.2.1, q.2.2.1, GE.calling q.2.2.2.1, q.2.2.2.2⟩), va_recv hK hPc (ci := 7) (q0 := 0) rfl rfl, (fun U hU hW => ⟨rfl, by rw [hU], by rw [hU]; exact hPc, GE.warm hW G, hDc.weaken (fun _ _ _ _ => trivial)⟩)⟩ rfl rfl hl.1 rfl (lv_room (Nat.le_of_ble_eq_true rfl)) dL_law_796 ⟨Nat.le_of_ble_eq_true rfl, Nat.le_of_ble_eq_true rfl⟩) hS (fun q _ h => hFc q h) hFc (fun q u t H1 locs ht hvm hw hB hz1 hk1 hS => ?_)
  obtain ⟨rfl, rfl⟩ := hw
  obtain ⟨hP1, -⟩ := hB
  rw [ht] at hP1
  have hP : va_P (dC, dI) vwCl (wAll cs g a r796.2 N P I1 T1 P1 I2 T2 P2 X R L K M) H1 := ((((((((((((((hP1.l).app (hP1.r)).app ((vP_keep hJ (hP.l.l.l.l.l.l.l.l.l.l.l.l.r) [12, 13] [0, 1, 2, 3, 4, 5, 6, 7, 8, 9, 10, 11] rfl hec (by decide) (by decide) hk1))).app ((vP_keep hJ (hP.l.l.l.l.l.l.l.l.l.l.l.r) [14] [0, 1, 2, 3, 4, 5, 6, 7, 8, 9, 10, 11] rfl hec (by decide) (by decide) hk1))).app ((vP_keep hJ (hP.l.l.l.l.l.l.l.l.l.l.r) [15, 16, 17, 18, 19, 20, 21, 22, 23, 24, 25] [0, 1, 2, 3, 4, 5, 6, 7, 8, 9, 10, 11] rfl hec (by decide) (by decide) hk1))).app ((vP_keep hJ (hP.l.l.l.l.l.l.l.l.l.r) [26, 27] [0, 1, 2, 3, 4, 5, 6, 7, 8, 9, 10, 11] rfl hec (by decide) (by decide) hk1))).app ((vP_keep hJ (hP.l.l.l.l.l.l.l.l.r) [28] [0, 1, 2, 3, 4, 5, 6, 7, 8, 9, 10, 11] rfl hec (by decide) (by decide) hk1))).app ((vP_keep hJ (hP.l.l.l.l.l.l.l.r) [29, 30, 31, 32, 33, 34, 35, 36, 37, 38, 39] [0, 1, 2, 3, 4, 5, 6, 7, 8, 9, 10, 11] rfl hec (by decide) (by decide) hk1))).app ((vP_keep hJ (hP.l.l.l.l.l.l.r) [40, 41] [0, 1, 2, 3, 4, 5, 6, 7, 8, 9, 10, 11] rfl hec (by decide) (by decide) hk1))).app ((vP_keep hJ (hP.l.l.l.l.l.r) [42, 43] [0, 1, 2, 3, 4, 5, 6, 7, 8, 9, 10, 11] rfl hec (by decide) (by decide) hk1))).app ((vP_keep hJ (hP.l.l.l.l.r) [44] [0, 1, 2, 3, 4, 5, 6, 7, 8, 9, 10, 11] rfl hec (by decide) (by decide) hk1))).app ((vP_keep hJ (hP.l.l.l.r) [45, 46, 47, 48, 49, 50, 51, 52, 53, 54, 55] [0, 1, 2, 3, 4, 5, 6, 7, 8, 9, 10, 11] rfl hec (by decide) (by decide) hk1))).app ((vP_keep hJ (hP.l.l.r) [56, 57, 58, 59] [0, 1, 2, 3, 4, 5, 6, 7, 8, 9, 10, 11] rfl hec (by decide) (by decide) hk1))).app ((vP_keep hJ (hP.l.r) [60, 61] [0, 1, 2, 3, 4, 5, 6, 7, 8, 9, 10, 11] rfl hec (by decide) (by decide) hk1))).app ((vP_keep hJ (hP.r) [62, 63, 64, 65, 66, 67, 68, 69, 70, 71, 72, 73] [0, 1, 2, 3, 4, 5, 6, 7, 8, 9, 10, 11] rfl hec (by decide) (by decide) hk1))
  generalize H1 = H at hP hS ⊢
  refine lv_aload_n hx hb dL_law_799 rfl (lv_at hl 2 rfl) ?_
  refine lv_aload_n hx hb dL_law_800 rfl (lv_at hl 0 rfl) ?_
  refine lv_iload_n hx hb dL_law_801 rfl (lv_at hl 3 rfl) ?_
  refine lv_iconst (v := 1) hx hb dL_law_802 (by decide) ?_
  refine lv_iadd hx hb dL_law_803 ?_
  obtain ⟨hi2, hf⟩ := gi_e hf
  refine va_sld hx hb hX hbl hbA hS hi2 dL_law_804 ?_
  obtain ⟨r805, hr805, hf⟩ := bn_e hf
  have hPc : va_P (dC, dI) vwCl (wM cs a M) _ := hP.r
  have hec : ((wM cs a M)).map Prod.fst = ([62, 63, 64, 65, 66, 67, 68, 69, 70, 71, 72, 73] : List Nat).map (adr g a) := rfl
  have hDc := vD_adr hJ [62, 63, 64, 65, 66, 67, 68, 69, 70, 71, 72, 73] (by decide) (by decide) hec
  have hFc := vF_adr hDc hS hA
  refine va_calli (va_runV (As := [.int ((xs ((x3 + (1 : Int32))).toNatClampNeg))]) (rest := [.int (r796.1)]) C (c_X8_run l dC dI cs a H.size M (xs ((x3 + (1 : Int32))).toNatClampNeg) r805 hr805) (cwV 1 hts gL_law_X8_run rfl rfl rfl (by decide +kernel) ⟨Nat.le_of_ble_eq_true rfl, Nat.le_of_ble_eq_true rfl⟩) ⟨(fun a U g mk q => ⟨q.1, q.2.1, q.2.2.1, GE.calling q.2.2.2.1, q.2.2.2.2⟩), va_recv hK hPc (ci := 8) (q0 := 0) rfl rfl, (fun U hU hW => ⟨rfl, by rw [hU], by rw [hU]; exact hPc, GE.warm hW G, hDc.weaken (fun _ _ _ _ => trivial)⟩)⟩ rfl rfl hl.1 rfl (lv_room (Nat.le_of_ble_eq_true rfl)) dL_law_805 ⟨Nat.le_of_ble_eq_true rfl, Nat.le_of_ble_eq_true rfl⟩) hS (fun q _ h => hFc q h) hFc (fun q u t H1 locs ht hvm hw hB hz1 hk1 hS => ?_)
  obtain ⟨rfl, rfl⟩ := hw
  obtain ⟨hP1, -⟩ := hB
  rw [ht] at hP1
  have hP : va_P (dC, dI) vwCl (wAll cs g a r796.2 N P I1 T1 P1 I2 T2 P2 X R L K r805.2) H1 := (((((((((((((((vP_keep hJ (hP.l.l.l.l.l.l.l.l.l.l.l.l.l.l) [0] [62, 63, 64, 65, 66, 67, 68, 69, 70, 71, 72, 73] rfl hec (by decide) (by decide) hk1)).app ((vP_keep hJ (hP.l.l.l.l.l.l.l.l.l.l.l.l.l.r) [1, 2, 3, 4, 5, 6, 7, 8, 9, 10, 11] [62, 63, 64, 65, 66, 67, 68, 69, 70, 71, 72, 73] rfl hec (by decide) (by decide) hk1))).app ((vP_keep hJ (hP.l.l.l.l.l.l.l.l.l.l.l.l.r) [12, 13] [62, 63, 64, 65, 66, 67, 68, 69, 70, 71, 72, 73] rfl hec (by decide) (by decide) hk1))).app ((vP_keep hJ (hP.l.l.l.l.l.l.l.l.l.l.l.r) [14] [62, 63, 64, 65, 66, 67, 68, 69, 70, 71, 72, 73] rfl hec (by decide) (by decide) hk1))).app ((vP_keep hJ (hP.l.l.l.l.l.l.l.l.l.l.r) [15, 16, 17, 18, 19, 20, 21, 22, 23, 24, 25] [62, 63, 64, 65, 66, 67, 68, 69, 70, 71, 72, 73] rfl hec (by decide) (by decide) hk1))).app ((vP_keep hJ (hP.l.l.l.l.l.l.l.l.l.r) [26, 27] [62, 63, 64, 65, 66, 67, 68, 69, 70, 71, 72, 73] rfl hec (by decide) (by decide) hk1))).app ((vP_keep hJ (hP.l.l.l.l.l.l.l.l.r) [28] [62, 63, 64, 65, 66, 67, 68, 69, 70, 71, 72, 73] rfl hec (by decide) (by decide) hk1))).app ((vP_keep hJ (hP.l.l.l.l.l.l.l.r) [29, 30, 31, 32, 33, 34, 35, 36, 37, 38, 39] [62, 63, 64, 65, 66, 67, 68, 69, 70, 71, 72, 73] rfl hec (by decide) (by decide) hk1))).app ((vP_keep hJ (hP.l.l.l.l.l.l.r) [40, 41] [62, 63, 64, 65, 66, 67, 68, 69, 70, 71, 72, 73] rfl hec (by decide) (by decide) hk1))).app ((vP_keep hJ (hP.l.l.l.l.l.r) [42, 43] [62, 63, 64, 65, 66, 67, 68, 69, 70, 71, 72, 73] rfl hec (by decide) (by decide) hk1))).app ((vP_keep hJ (hP.l.l.l.l.r) [44] [62, 63, 64, 65, 66, 67, 68, 69, 70, 71, 72, 73] rfl hec (by decide) (by decide) hk1))).app ((vP_keep hJ (hP.l.l.l.r) [45, 46, 47, 48, 49, 50, 51, 52, 53, 54, 55] [62, 63, 64, 65, 66, 67, 68, 69, 70, 71, 72, 73] rfl hec (by decide) (by decide) hk1))).app ((vP_keep hJ (hP.l.l.r) [56, 57, 58, 59] [62, 63, 64, 65, 66, 67, 68, 69, 70, 71, 72, 73] rfl hec (by decide) (by decide) hk1))).app ((vP_keep hJ (hP.l.r) [60, 61] [62, 63, 64, 65, 66, 67, 68, 69, 70, 71, 72, 73] rfl hec (by decide) (by decide) hk1))).app (hP1)
  generalize H1 = H at hP hS ⊢
  refine lv_icmp_eq (tgt := 1128) hx hb dL_law_808 (by decide) (fun c3 => ?_) (fun c3 => ?_)
  · replace hf := it_t c3 hf
    exact b_L_law_1128 C G hX hbl hbA hE hJ hA hR x3 r796.2 N P I1 T1 P1 I2 T2 P2 X R L K r805.2 hK18 _ _ _ (lv_sub hl [0, 1, 2, 3] rfl) hP hS hf
  · replace hf := it_f c3 hf
    refine lv_iconst (v := 0) hx hb dL_law_811 (by decide) ?_
    exact hR _ _ _ _ _ dL_law_812 hf hS
def f_L_law_813 (Ls : Nat) (xs : Nat → Int32) (x3 : Int32) (B : Nat → Int32) (N : Tw) (P : Ps) (I1 : Int32) (T1 : Tw) (P1 : Ps) (I2 : Int32) (T2 : Tw) (P2 : Ps) (X : Tx) (R : Tw) (L : Wl) (K : Ch) (M : Ms) (K18 : Int32 → (Nat → Int32) → Tw → Ps → Int32 → Tw → Ps → Int32 → Tw → Ps → Tx → Tw → Wl → Ch → Ms → Option Int32) : Option Int32 :=
  gi ((x3 + (1 : Int32))) Ls <|
  gi ((x3 + (2 : Int32))) Ls <|
  gi ((x3 + (3 : Int32))) Ls <|
  bn (f_X7_will (xs ((x3 + (1 : Int32))).toNatClampNeg) (xs ((x3 + (2 : Int32))).toNatClampNeg) (xs ((x3 + (3 : Int32))).toNatClampNeg) B N L) fun r829 =>
  gi ((x3 + (1 : Int32))) Ls <|
  gi ((x3 + (2 : Int32))) Ls <|
  gi ((x3 + (3 : Int32))) Ls <|
  bn (f_X8_will (xs ((x3 + (1 : Int32))).toNatClampNeg) (xs ((x3 + (2 : Int32))).toNatClampNeg) (xs ((x3 + (3 : Int32))).toNatClampNeg) M) fun r848 =>
  if r829.1 = r848.1 then (
    f_L_law_1128 Ls xs x3 r829.2.1 N P I1 T1 P1 I2 T2 P2 X R r829.2.2 K r848.2 K18
  ) else (
    some (0 : Int32)
  )
set_option maxHeartbeats 4000000 in
set_option maxRecDepth 100000 in
theorem b_L_law_813 {p : Program} {l : Launch} {e : Env} {s : State} {m : MethodId} {args : Array Value} {below : List Frame} {meth : Method} {c : Code} {Q : State → Prop} {dC : Nat → ClassId} {dI : Nat → Nat → Nat} {cs : Nat → ClassId} {A : Nat → Prop} {g : Nat → Nat} {adK : Nat → Nat} {adV : Nat → Nat} {b : Nat} {a : Nat → Nat} {Ls : Nat} {xs : Nat → Int32} {res : Int32} (C : CallFix p m c cL_law 4 s args wsL_law RL) (G : GE dC dI cs s) (hX : va_X b Ls xs s s.heap) (hbl : b < s.heap.size) (hbA : ¬ A b) (hE : SE adK adV A s s.heap) (hJ : adI A (adr g a) 74) (hA : ∀ q : Nat, s.heap.size ≤ q → A q) (hR : RTw p l e s m args below meth c Q A res) (x3 : Int32) (B : Nat → Int32) (N : Tw) (P : Ps) (I1 : Int32) (T1 : Tw) (P1 : Ps) (I2 : Int32) (T2 : Tw) (P2 : Ps) (X : Tx) (R : Tw) (L : Wl) (K : Ch) (M : Ms) {K18 : Int32 → (Nat → Int32) → Tw → Ps → Int32 → Tw → Ps → Int32 → Tw → Ps → Tx → Tw → Wl → Ch → Ms → Option Int32} (hK18 : ∀ (x3 : Int32) (B : Nat → Int32) (N : Tw) (P : Ps) (I1 : Int32) (T1 : Tw) (P1 : Ps) (I2 : Int32) (T2 : Tw) (P2 : Ps) (X : Tx) (R : Tw) (L : Wl) (K : Ch) (M : Ms) (H : Heap) (locs : List Loc) (ls : Array Slot), lv_has ls 4 [(0, .ref b), (1, .ref (g 0)), (2, .ref (a 0)), (3, .int (x3))] → va_P (dC, dI) vwCl (wAll cs g a B N P I1 T1 P1 I2 T2 P2 X R L K M) H → va_S A s.heap H locs → K18 x3 B N P I1 T1 P1 I2 T2 P2 X R L K M = some res → W p l e room_1 s m args below meth c H locs 74 3434 Q (F0 m 18 ls [])) (H : Heap) (locs : List Loc) (ls : Array Slot) (hl : lv_has ls 4 [(0, .ref b), (1, .ref (g 0)), (2, .ref (a 0)), (3, .int (x3))]) (hP : va_P (dC, dI) vwCl (wAll cs g a B N P I1 T1 P1 I2 T2 P2 X R L K M) H) (hS : va_S A s.heap H locs) (hf : f_L_law_813 Ls xs x3 B N P I1 T1 P1 I2 T2 P2 X R L K M K18 = some res) : W p l e room_1 s m args below meth c H locs 74 3434 Q (F0 m 813 ls []) := by
  obtain ⟨hx, hb, hml, hown, hts⟩ := id C
  obtain ⟨hK, hN⟩ := id G
  unfold f_L_law_813 at hf
  refine lv_aload_n hx hb dL_law_813 rfl (lv_at hl 1 rfl) ?_
  refine lv_aload_n hx hb dL_law_814 rfl (lv_at hl 0 rfl) ?_
  refine lv_iload_n hx hb dL_law_815 rfl (lv_at hl 3 rfl) ?_
  refine lv_iconst (v := 1) hx hb dL_law_816 (by decide) ?_
  refine lv_iadd hx hb dL_law_817 ?_
  obtain ⟨hi1, hf⟩ := gi_e hf
  refine va_sld hx hb hX hbl hbA hS hi1 dL_law_818 ?_
  refine lv_aload_n hx hb dL_law_819 rfl (lv_at hl 0 rfl) ?_
  refine lv_iload_n hx hb dL_law_820 rfl (lv_at hl 3 rfl) ?_
  refine lv_iconst (v := 2) hx hb dL_law_821 (by decide) ?_
  refine lv_iadd hx hb dL_law_822 ?_
  obtain ⟨hi2, hf⟩ := gi_e hf
  refine va_sld hx hb hX hbl hbA hS hi2 dL_law_823 ?_
  refine lv_aload_n hx hb dL_law_824 rfl (lv_at hl 0 rfl) ?_
  refine lv_iload_n hx hb dL_law_825 rfl (lv_at hl 3 rfl) ?_
  refine lv_iconst (v := 3) hx hb dL_law_826 (by decide) ?_
  refine lv_iadd hx hb dL_law_827 ?_
  obtain ⟨hi3, hf⟩ := gi_e hf
  refine va_sld hx hb hX hbl hbA hS hi3 dL_law_828 ?_
  obtain ⟨r829, hr829, hf⟩ := bn_e hf
  have hPc : va_P (dC, dI) vwCl (wB g B ++ wT cs (fun i => g (1 + i)) N ++ wW cs (fun i => g (56 + i)) L) _ := ((hP.l.l.l.l.l.l.l.l.l.l.l.l.l.l).app (hP.l.l.l.l.l.l.l.l.l.l.l.l.l.r)).app (hP.l.l.r)
  have hec : ((wB g B ++ wT cs (fun i => g (1 + i)) N ++ wW cs (fun i => g (56 + i)) L)).map Prod.fst = ([0, 1, 2, 3, 4, 5, 6, 7, 8, 9, 10, 11, 56, 57, 58, 59] : List Nat).map (adr g a) := rfl
  have hDc := vD_adr hJ [0, 1, 2, 3, 4, 5, 6, 7, 8, 9, 10, 11, 56, 57, 58, 59] (by decide) (by decide) hec
  have hFc := vF_adr hDc hS hA
  refine va_calli (va_runV (As := [.int ((xs ((x3 + (1 : Int32))).toNatClampNeg)), .int ((xs ((x3 + (2 : Int32))).toNatClampNeg)), .int ((xs ((x3 + (3 : Int32))).toNatClampNeg))]) (rest := []) C (c_X7_will l dC dI cs g H.size B N L (xs ((x3 + (1 : Int32))).toNatClampNeg) (xs ((x3 + (2 : Int32))).toNatClampNeg) (xs ((x3 + (3 : Int32))).toNatClampNeg) r829 hr829) (cwV 3 hts gL_law_X7_will rfl rfl rfl (by decide +kernel) ⟨Nat.le_of_ble_eq_true rfl, Nat.le_of_ble_eq_true rfl⟩) ⟨(fun a U g mk q => ⟨q.1, q.2.1, q.2.2.1, GE.calling q.2.2.2.1, q.2.2.2.2⟩), va_recv hK hPc (ci := 7) (q0 := 0) rfl rfl, (fun U hU hW => ⟨rfl, by rw [hU], by rw [hU]; exact hPc, GE.warm hW G, hDc.weaken (fun _ _ _ _ => trivial)⟩)⟩ rfl rfl hl.1 rfl (lv_room (Nat.le_of_ble_eq_true rfl)) dL_law_829 ⟨Nat.le_of_ble_eq_true rfl, Nat.le_of_ble_eq_true rfl⟩) hS (fun q _ h => hFc q h) hFc (fun q u t H1 locs ht hvm hw hB hz1 hk1 hS => ?_)
  obtain ⟨rfl, rfl⟩ := hw
  obtain ⟨hP1, -⟩ := hB
  rw [ht] at hP1
  have hP : va_P (dC, dI) vwCl (wAll cs g a r829.2.1 N P I1 T1 P1 I2 T2 P2 X R r829.2.2 K M) H1 := ((((((((((((((hP1.l.l).app (hP1.l.r)).app ((vP_keep hJ (hP.l.l.l.l.l.l.l.l.l.l.l.l.r) [12, 13] [0, 1, 2, 3, 4, 5, 6, 7, 8, 9, 10, 11, 56, 57, 58, 59] rfl hec (by decide) (by decide) hk1))).app ((vP_keep hJ (hP.l.l.l.l.l.l.l.l.l.l.l.r) [14] [0, 1, 2, 3, 4, 5, 6, 7, 8, 9, 10, 11, 56, 57, 58, 59] rfl hec (by decide) (by decide) hk1))).app ((vP_keep hJ (hP.l.l.l.l.l.l.l.l.l.l.r) [15, 16, 17, 18, 19, 20, 21, 22, 23, 24, 25] [0, 1, 2, 3, 4, 5, 6, 7, 8, 9, 10, 11, 56, 57, 58, 59] rfl hec (by decide) (by decide) hk1))).app ((vP_keep hJ (hP.l.l.l.l.l.l.l.l.l.r) [26, 27] [0, 1, 2, 3, 4, 5, 6, 7, 8, 9, 10, 11, 56, 57, 58, 59] rfl hec (by decide) (by decide) hk1))).app ((vP_keep hJ (hP.l.l.l.l.l.l.l.l.r) [28] [0, 1, 2, 3, 4, 5, 6, 7, 8, 9, 10, 11, 56, 57, 58, 59] rfl hec (by decide) (by decide) hk1))).app ((vP_keep hJ (hP.l.l.l.l.l.l.l.r) [29, 30, 31, 32, 33, 34, 35, 36, 37, 38, 39] [0, 1, 2, 3, 4, 5, 6, 7, 8, 9, 10, 11, 56, 57, 58, 59] rfl hec (by decide) (by decide) hk1))).app ((vP_keep hJ (hP.l.l.l.l.l.l.r) [40, 41] [0, 1, 2, 3, 4, 5, 6, 7, 8, 9, 10, 11, 56, 57, 58, 59] rfl hec (by decide) (by decide) hk1))).app ((vP_keep hJ (hP.l.l.l.l.l.r) [42, 43] [0, 1, 2, 3, 4, 5, 6, 7, 8, 9, 10, 11, 56, 57, 58, 59] rfl hec (by decide) (by decide) hk1))).app ((vP_keep hJ (hP.l.l.l.l.r) [44] [0, 1, 2, 3, 4, 5, 6, 7, 8, 9, 10, 11, 56, 57, 58, 59] rfl hec (by decide) (by decide) hk1))).app ((vP_keep hJ (hP.l.l.l.r) [45, 46, 47, 48, 49, 50, 51, 52, 53, 54, 55] [0, 1, 2, 3, 4, 5, 6, 7, 8, 9, 10, 11, 56, 57, 58, 59] rfl hec (by decide) (by decide) hk1))).app (hP1.r)).app ((vP_keep hJ (hP.l.r) [60, 61] [0, 1, 2, 3, 4, 5, 6, 7, 8, 9, 10, 11, 56, 57, 58, 59] rfl hec (by decide) (by decide) hk1))).app ((vP_keep hJ (hP.r) [62, 63, 64, 65, 66, 67, 68, 69, 70, 71, 72, 73] [0, 1, 2, 3, 4, 5, 6, 7, 8, 9, 10, 11, 56, 57, 58, 59] rfl hec (by decide) (by decide) hk1))
  generalize H1 = H at hP hS ⊢
  refine lv_aload_n hx hb dL_law_832 rfl (lv_at hl 2 rfl) ?_
  refine lv_aload_n hx hb dL_law_833 rfl (lv_at hl 0 rfl) ?_
  refine lv_iload_n hx hb dL_law_834 rfl (lv_at hl 3 rfl) ?_
  refine lv_iconst (v := 1) hx hb dL_law_835 (by decide) ?_
  refine lv_iadd hx hb dL_law_836 ?_
  obtain ⟨hi4, hf⟩ := gi_e hf
  refine va_sld hx hb hX hbl hbA hS hi4 dL_law_837 ?_
  refine lv_aload_n hx hb dL_law_838 rfl (lv_at hl 0 rfl) ?_
  refine lv_iload_n hx hb dL_law_839 rfl (lv_at hl 3 rfl) ?_
  refine lv_iconst (v := 2) hx hb dL_law_840 (by decide) ?_
  refine lv_iadd hx hb dL_law_841 ?_
  obtain ⟨hi5, hf⟩ := gi_e hf
  refine va_sld hx hb hX hbl hbA hS hi5 dL_law_842 ?_
  refine lv_aload_n hx hb dL_law_843 rfl (lv_at hl 0 rfl) ?_
  refine lv_iload_n hx hb dL_law_844 rfl (lv_at hl 3 rfl) ?_
  refine lv_iconst (v := 3) hx hb dL_law_845 (by decide) ?_
  refine lv_iadd hx hb dL_law_846 ?_
  obtain ⟨hi6, hf⟩ := gi_e hf
  refine va_sld hx hb hX hbl hbA hS hi6 dL_law_847 ?_
  obtain ⟨r848, hr848, hf⟩ := bn_e hf
  have hPc : va_P (dC, dI) vwCl (wM cs a M) _ := hP.r
  have hec : ((wM cs a M)).map Prod.fst = ([62, 63, 64, 65, 66, 67, 68, 69, 70, 71, 72, 73] : List Nat).map (adr g a) := rfl
  have hDc := vD_adr hJ [62, 63, 64, 65, 66, 67, 68, 69, 70, 71, 72, 73] (by decide) (by decide) hec
  have hFc := vF_adr hDc hS hA
  refine va_calli (va_runV (As := [.int ((xs ((x3 + (1 : Int32))).toNatClampNeg)), .int ((xs ((x3 + (2 : Int32))).toNatClampNeg)), .int ((xs ((x3 + (3 : Int32))).toNatClampNeg))]) (rest := [.int (r829.1)]) C (c_X8_will l dC dI cs a H.size M (xs ((x3 + (1 : Int32))).toNatClampNeg) (xs ((x3 + (2 : Int32))).toNatClampNeg) (xs ((x3 + (3 : Int32))).toNatClampNeg) r848 hr848) (cwV 3 hts gL_law_X8_will rfl rfl rfl (by decide +kernel) ⟨Nat.le_of_ble_eq_true rfl, Nat.le_of_ble_eq_true rfl⟩) ⟨(fun a U g mk q => ⟨q.1, q.2.1, q.2.2.1, GE.calling q.2.2.2.1, q.2.2.2.2⟩), va_recv hK hPc (ci := 8) (q0 := 0) rfl rfl, (fun U hU hW => ⟨rfl, by rw [hU], by rw [hU]; exact hPc, GE.warm hW G, hDc.weaken (fun _ _ _ _ => trivial)⟩)⟩ rfl rfl hl.1 rfl (lv_room (Nat.le_of_ble_eq_true rfl)) dL_law_848 ⟨Nat.le_of_ble_eq_true rfl, Nat.le_of_ble_eq_true rfl⟩) hS (fun q _ h => hFc q h) hFc (fun q u t H1 locs ht hvm hw hB hz1 hk1 hS => ?_)
  obtain ⟨rfl, rfl⟩ := hw
  obtain ⟨hP1, -⟩ := hB
  rw [ht] at hP1
  have hP : va_P (dC, dI) vwCl (wAll cs g a r829.2.1 N P I1 T1 P1 I2 T2 P2 X R r829.2.2 K r848.2) H1 := (((((((((((((((vP_keep hJ (hP.l.l.l.l.l.l.l.l.l.l.l.l.l.l) [0] [62, 63, 64, 65, 66, 67, 68, 69, 70, 71, 72, 73] rfl hec (by decide) (by decide) hk1)).app ((vP_keep hJ (hP.l.l.l.l.l.l.l.l.l.l.l.l.l.r) [1, 2, 3, 4, 5, 6, 7, 8, 9, 10, 11] [62, 63, 64, 65, 66, 67, 68, 69, 70, 71, 72, 73] rfl hec (by decide) (by decide) hk1))).app ((vP_keep hJ (hP.l.l.l.l.l.l.l.l.l.l.l.l.r) [12, 13] [62, 63, 64, 65, 66, 67, 68, 69, 70, 71, 72, 73] rfl hec (by decide) (by decide) hk1))).app ((vP_keep hJ (hP.l.l.l.l.l.l.l.l.l.l.l.r) [14] [62, 63, 64, 65, 66, 67, 68, 69, 70, 71, 72, 73] rfl hec (by decide) (by decide) hk1))).app ((vP_keep hJ (hP.l.l.l.l.l.l.l.l.l.l.r) [15, 16, 17, 18, 19, 20, 21, 22, 23, 24, 25] [62, 63, 64, 65, 66, 67, 68, 69, 70, 71, 72, 73] rfl hec (by decide) (by decide) hk1))).app ((vP_keep hJ (hP.l.l.l.l.l.l.l.l.l.r) [26, 27] [62, 63, 64, 65, 66, 67, 68, 69, 70, 71, 72, 73] rfl hec (by decide) (by decide) hk1))).app ((vP_keep hJ (hP.l.l.l.l.l.l.l.l.r) [28] [62, 63, 64, 65, 66, 67, 68, 69, 70, 71, 72, 73] rfl hec (by decide) (by decide) hk1))).app ((vP_keep hJ (hP.l.l.l.l.l.l.l.r) [29, 30, 31, 32, 33, 34, 35, 36, 37, 38, 39] [62, 63, 64, 65, 66, 67, 68, 69, 70, 71, 72, 73] rfl hec (by decide) (by decide) hk1))).app ((vP_keep hJ (hP.l.l.l.l.l.l.r) [40, 41] [62, 63, 64, 65, 66, 67, 68, 69, 70, 71, 72, 73] rfl hec (by decide) (by decide) hk1))).app ((vP_keep hJ (hP.l.l.l.l.l.r) [42, 43] [62, 63, 64, 65, 66, 67, 68, 69, 70, 71, 72, 73] rfl hec (by decide) (by decide) hk1))).app ((vP_keep hJ (hP.l.l.l.l.r) [44] [62, 63, 64, 65, 66, 67, 68, 69, 70, 71, 72, 73] rfl hec (by decide) (by decide) hk1))).app ((vP_keep hJ (hP.l.l.l.r) [45, 46, 47, 48, 49, 50, 51, 52, 53, 54, 55] [62, 63, 64, 65, 66, 67, 68, 69, 70, 71, 72, 73] rfl hec (by decide) (by decide) hk1))).app ((vP_keep hJ (hP.l.l.r) [56, 57, 58, 59] [62, 63, 64, 65, 66, 67, 68, 69, 70, 71, 72, 73] rfl hec (by decide) (by decide) hk1))).app ((vP_keep hJ (hP.l.r) [60, 61] [62, 63, 64, 65, 66, 67, 68, 69, 70, 71, 72, 73] rfl hec (by decide) (by decide) hk1))).app (hP1)
  generalize H1 = H at hP hS ⊢
  refine lv_icmp_eq (tgt := 1128) hx hb dL_law_851 (by decide) (fun c7 => ?_) (fun c7 => ?_)
  · replace hf := it_t c7 hf
    exact b_L_law_1128 C G hX hbl hbA hE hJ hA hR x3 r829.2.1 N P I1 T1 P1 I2 T2 P2 X R r829.2.2 K r848.2 hK18 _ _ _ (lv_sub hl [0, 1, 2, 3] rfl) hP hS hf
  · replace hf := it_f c7 hf
    refine lv_iconst (v := 0) hx hb dL_law_854 (by decide) ?_
    exact hR _ _ _ _ _ dL_law_855 hf hS
def f_L_law_856 (Ls : Nat) (xs : Nat → Int32) (x3 : Int32) (B : Nat → Int32) (N : Tw) (P : Ps) (I1 : Int32) (T1 : Tw) (P1 : Ps) (I2 : Int32) (T2 : Tw) (P2 : Ps) (X : Tx) (R : Tw) (L : Wl) (K : Ch) (M : Ms) (K18 : Int32 → (Nat → Int32) → Tw → Ps → Int32 → Tw → Ps → Int32 → Tw → Ps → Tx → Tw → Wl → Ch → Ms → Option Int32) : Option Int32 :=
  gi ((x3 + (1 : Int32))) Ls <|
  gi ((x3 + (2 : Int32))) Ls <|
  bn (f_X7_whom (xs ((x3 + (1 : Int32))).toNatClampNeg) (xs ((x3 + (2 : Int32))).toNatClampNeg) B N R) fun r867 =>
  gi ((x3 + (1 : Int32))) Ls <|
  gi ((x3 + (2 : Int32))) Ls <|
  bn (f_X8_whom (xs ((x3 + (1 : Int32))).toNatClampNeg) (xs ((x3 + (2 : Int32))).toNatClampNeg) M) fun r881 =>
  if r867.1 = r881.1 then (
    f_L_law_1128 Ls xs x3 r867.2.1 N P I1 T1 P1 I2 T2 P2 X r867.2.2 L K r881.2 K18
  ) else (
    some (0 : Int32)
  )
set_option maxHeartbeats 4000000 in
set_option maxRecDepth 100000 in
theorem b_L_law_856 {p : Program} {l : Launch} {e : Env} {s : State} {m : MethodId} {args : Array Value} {below : List Frame} {meth : Method} {c : Code} {Q : State → Prop} {dC : Nat → ClassId} {dI : Nat → Nat → Nat} {cs : Nat → ClassId} {A : Nat → Prop} {g : Nat → Nat} {adK : Nat → Nat} {adV : Nat → Nat} {b : Nat} {a : Nat → Nat} {Ls : Nat} {xs : Nat → Int32} {res : Int32} (C : CallFix p m c cL_law 4 s args wsL_law RL) (G : GE dC dI cs s) (hX : va_X b Ls xs s s.heap) (hbl : b < s.heap.size) (hbA : ¬ A b) (hE : SE adK adV A s s.heap) (hJ : adI A (adr g a) 74) (hA : ∀ q : Nat, s.heap.size ≤ q → A q) (hR : RTw p l e s m args below meth c Q A res) (x3 : Int32) (B : Nat → Int32) (N : Tw) (P : Ps) (I1 : Int32) (T1 : Tw) (P1 : Ps) (I2 : Int32) (T2 : Tw) (P2 : Ps) (X : Tx) (R : Tw) (L : Wl) (K : Ch) (M : Ms) {K18 : Int32 → (Nat → Int32) → Tw → Ps → Int32 → Tw → Ps → Int32 → Tw → Ps → Tx → Tw → Wl → Ch → Ms → Option Int32} (hK18 : ∀ (x3 : Int32) (B : Nat → Int32) (N : Tw) (P : Ps) (I1 : Int32) (T1 : Tw) (P1 : Ps) (I2 : Int32) (T2 : Tw) (P2 : Ps) (X : Tx) (R : Tw) (L : Wl) (K : Ch) (M : Ms) (H : Heap) (locs : List Loc) (ls : Array Slot), lv_has ls 4 [(0, .ref b), (1, .ref (g 0)), (2, .ref (a 0)), (3, .int (x3))] → va_P (dC, dI) vwCl (wAll cs g a B N P I1 T1 P1 I2 T2 P2 X R L K M) H → va_S A s.heap H locs → K18 x3 B N P I1 T1 P1 I2 T2 P2 X R L K M = some res → W p l e room_1 s m args below meth c H locs 74 3434 Q (F0 m 18 ls [])) (H : Heap) (locs : List Loc) (ls : Array Slot) (hl : lv_has ls 4 [(0, .ref b), (1, .ref (g 0)), (2, .ref (a 0)), (3, .int (x3))]) (hP : va_P (dC, dI) vwCl (wAll cs g a B N P I1 T1 P1 I2 T2 P2 X R L K M) H) (hS : va_S A s.heap H locs) (hf : f_L_law_856 Ls xs x3 B N P I1 T1 P1 I2 T2 P2 X R L K M K18 = some res) : W p l e room_1 s m args below meth c H locs 74 3434 Q (F0 m 856 ls []) := by
  obtain ⟨hx, hb, hml, hown, hts⟩ := id C
  obtain ⟨hK, hN⟩ := id G
  unfold f_L_law_856 at hf
  refine lv_aload_n hx hb dL_law_856 rfl (lv_at hl 1 rfl) ?_
  refine lv_aload_n hx hb dL_law_857 rfl (lv_at hl 0 rfl) ?_
  refine lv_iload_n hx hb dL_law_858 rfl (lv_at hl 3 rfl) ?_
  refine lv_iconst (v := 1) hx hb dL_law_859 (by decide) ?_
  refine lv_iadd hx hb dL_law_860 ?_
  obtain ⟨hi1, hf⟩ := gi_e hf
  refine va_sld hx hb hX hbl hbA hS hi1 dL_law_861 ?_
  refine lv_aload_n hx hb dL_law_862 rfl (lv_at hl 0 rfl) ?_
  refine lv_iload_n hx hb dL_law_863 rfl (lv_at hl 3 rfl) ?_
  refine lv_iconst (v := 2) hx hb dL_law_864 (by decide) ?_
  refine lv_iadd hx hb dL_law_865 ?_
  obtain ⟨hi2, hf⟩ := gi_e hf
  refine va_sld hx hb hX hbl hbA hS hi2 dL_law_866 ?_
  obtain ⟨r867, hr867, hf⟩ := bn_e hf
  have hPc : va_P (dC, dI) vwCl (wB g B ++ wT cs (fun i => g (1 + i)) N ++ wF (g 44) (g 45) ++ wT cs (fun i => g (45 + i)) R) _ := (((hP.l.l.l.l.l.l.l.l.l.l.l.l.l.l).app (hP.l.l.l.l.l.l.l.l.l.l.l.l.l.r)).app (hP.l.l.l.l.r)).app (hP.l.l.l.r)
  have hec : ((wB g B ++ wT cs (fun i => g (1 + i)) N ++ wF (g 44) (g 45) ++ wT cs (fun i => g (45 + i)) R)).map Prod.fst = ([0, 1, 2, 3, 4, 5, 6, 7, 8, 9, 10, 11, 44, 45, 46, 47, 48, 49, 50, 51, 52, 53, 54, 55] : List Nat).map (adr g a) := rfl
  have hDc := vD_adr hJ [0, 1, 2, 3, 4, 5, 6, 7, 8, 9, 10, 11, 44, 45, 46, 47, 48, 49, 50, 51, 52, 53, 54, 55] (by decide) (by decide) hec
  have hFc := vF_adr hDc hS hA
  refine va_calli (va_runV (As := [.int ((xs ((x3 + (1 : Int32))).toNatClampNeg)), .int ((xs ((x3 + (2 : Int32))).toNatClampNeg))]) (rest := []) C (c_X7_whom l dC dI cs g H.size B N R (xs ((x3 + (1 : Int32))).toNatClampNeg) (xs ((x3 + (2 : Int32))).toNatClampNeg) r867 hr867) (cwV 2 hts gL_law_X7_whom rfl rfl rfl (by decide +kernel) ⟨Nat.le_of_ble_eq_true rfl, Nat.le_of_ble_eq_true rfl⟩) ⟨(fun a U g mk q => ⟨q.1, q.2.1, q.2.2.1, GE.calling q.2.2.2.1, q.2.2.2.2⟩), va_recv hK hPc (ci := 7) (q0 := 0) rfl rfl, (fun U hU hW => ⟨rfl, by rw [hU], by rw [hU]; exact hPc, GE.warm hW G, hDc.weaken (fun _ _ _ _ => trivial)⟩)⟩ rfl rfl hl.1 rfl (lv_room (Nat.le_of_ble_eq_true rfl)) dL_law_867 ⟨Nat.le_of_ble_eq_true rfl, Nat.le_of_ble_eq_true rfl⟩) hS (fun q _ h => hFc q h) hFc (fun q u t H1 locs ht hvm hw hB hz1 hk1 hS => ?_)
  obtain ⟨rfl, rfl⟩ := hw
  obtain ⟨hP1, -⟩ := hB
  rw [ht] at hP1
  have hP : va_P (dC, dI) vwCl (wAll cs g a r867.2.1 N P I1 T1 P1 I2 T2 P2 X r867.2.2 L K M) H1 := ((((((((((((((hP1.l.l.l).app (hP1.l.l.r)).app ((vP_keep hJ (hP.l.l.l.l.l.l.l.l.l.l.l.l.r) [12, 13] [0, 1, 2, 3, 4, 5, 6, 7, 8, 9, 10, 11, 44, 45, 46, 47, 48, 49, 50, 51, 52, 53, 54, 55] rfl hec (by decide) (by decide) hk1))).app ((vP_keep hJ (hP.l.l.l.l.l.l.l.l.l.l.l.r) [14] [0, 1, 2, 3, 4, 5, 6, 7, 8, 9, 10, 11, 44, 45, 46, 47, 48, 49, 50, 51, 52, 53, 54, 55] rfl hec (by decide) (by decide) hk1))).app ((vP_keep hJ (hP.l.l.l.l.l.l.l.l.l.l.r) [15, 16, 17, 18, 19, 20, 21, 22, 23, 24, 25] [0, 1, 2, 3, 4, 5, 6, 7, 8, 9, 10, 11, 44, 45, 46, 47, 48, 49, 50, 51, 52, 53, 54, 55] rfl hec (by decide) (by decide) hk1))).app ((vP_keep hJ (hP.l.l.l.l.l.l.l.l.l.r) [26, 27] [0, 1, 2, 3, 4, 5, 6, 7, 8, 9, 10, 11, 44, 45, 46, 47, 48, 49, 50, 51, 52, 53, 54, 55] rfl hec (by decide) (by decide) hk1))).app ((vP_keep hJ (hP.l.l.l.l.l.l.l.l.r) [28] [0, 1, 2, 3, 4, 5, 6, 7, 8, 9, 10, 11, 44, 45, 46, 47, 48, 49, 50, 51, 52, 53, 54, 55] rfl hec (by decide) (by decide) hk1))).app ((vP_keep hJ (hP.l.l.l.l.l.l.l.r) [29, 30, 31, 32, 33, 34, 35, 36, 37, 38, 39] [0, 1, 2, 3, 4, 5, 6, 7, 8, 9, 10, 11, 44, 45, 46, 47, 48, 49, 50, 51, 52, 53, 54, 55] rfl hec (by decide) (by decide) hk1))).app ((vP_keep hJ (hP.l.l.l.l.l.l.r) [40, 41] [0, 1, 2, 3, 4, 5, 6, 7, 8, 9, 10, 11, 44, 45, 46, 47, 48, 49, 50, 51, 52, 53, 54, 55] rfl hec (by decide) (by decide) hk1))).app ((vP_keep hJ (hP.l.l.l.l.l.r) [42, 43] [0, 1, 2, 3, 4, 5, 6, 7, 8, 9, 10, 11, 44, 45, 46, 47, 48, 49, 50, 51, 52, 53, 54, 55] rfl hec (by decide) (by decide) hk1))).app (hP1.l.r)).app (hP1.r)).app ((vP_keep hJ (hP.l.l.r) [56, 57, 58, 59] [0, 1, 2, 3, 4, 5, 6, 7, 8, 9, 10, 11, 44, 45, 46, 47, 48, 49, 50, 51, 52, 53, 54, 55] rfl hec (by decide) (by decide) hk1))).app ((vP_keep hJ (hP.l.r) [60, 61] [0, 1, 2, 3, 4, 5, 6, 7, 8, 9, 10, 11, 44, 45, 46, 47, 48, 49, 50, 51, 52, 53, 54, 55] rfl hec (by decide) (by decide) hk1))).app ((vP_keep hJ (hP.r) [62, 63, 64, 65, 66, 67, 68, 69, 70, 71, 72, 73] [0, 1, 2, 3, 4, 5, 6, 7, 8, 9, 10, 11, 44, 45, 46, 47, 48, 49, 50, 51, 52, 53, 54, 55] rfl hec (by decide) (by decide) hk1))
  generalize H1 = H at hP hS ⊢
  refine lv_aload_n hx hb dL_law_870 rfl (lv_at hl 2 rfl) ?_
  refine lv_aload_n hx hb dL_law_871 rfl (lv_at hl 0 rfl) ?_
  refine lv_iload_n hx hb dL_law_872 rfl (lv_at hl 3 rfl) ?_
  refine lv_iconst (v := 1) hx hb dL_law_873 (by decide) ?_
  refine lv_iadd hx hb dL_law_874 ?_
  obtain ⟨hi3, hf⟩ := gi_e hf
  refine va_sld hx hb hX hbl hbA hS hi3 dL_law_875 ?_
  refine lv_aload_n hx hb dL_law_876 rfl (lv_at hl 0 rfl) ?_
  refine lv_iload_n hx hb dL_law_877 rfl (lv_at hl 3 rfl) ?_
  refine lv_iconst (v := 2) hx hb dL_law_878 (by decide) ?_
  refine lv_iadd hx hb dL_law_879 ?_
  obtain ⟨hi4, hf⟩ := gi_e hf
  refine va_sld hx hb hX hbl hbA hS hi4 dL_law_880 ?_
  obtain ⟨r881, hr881, hf⟩ := bn_e hf
  have hPc : va_P (dC, dI) vwCl (wM cs a M) _ := hP.r
  have hec : ((wM cs a M)).map Prod.fst = ([62, 63, 64, 65, 66, 67, 68, 69, 70, 71, 72, 73] : List Nat).map (adr g a) := rfl
  have hDc := vD_adr hJ [62, 63, 64, 65, 66, 67, 68, 69, 70, 71, 72, 73] (by decide) (by decide) hec
  have hFc := vF_adr hDc hS hA
  refine va_calli (va_runV (As := [.int ((xs ((x3 + (1 : Int32))).toNatClampNeg)), .int ((xs ((x3 + (2 : Int32))).toNatClampNeg))]) (rest := [.int (r867.1)]) C (c_X8_whom l dC dI cs a H.size M (xs ((x3 + (1 : Int32))).toNatClampNeg) (xs ((x3 + (2 : Int32))).toNatClampNeg) r881 hr881) (cwV 2 hts gL_law_X8_whom rfl rfl rfl (by decide +kernel) ⟨Nat.le_of_ble_eq_true rfl, Nat.le_of_ble_eq_true rfl⟩) ⟨(fun a U g mk q => ⟨q.1, q.2.1, q.2.2.1, GE.calling q.2.2.2.1, q.2.2.2.2⟩), va_recv hK hPc (ci := 8) (q0 := 0) rfl rfl, (fun U hU hW => ⟨rfl, by rw [hU], by rw [hU]; exact hPc, GE.warm hW G, hDc.weaken (fun _ _ _ _ => trivial)⟩)⟩ rfl rfl hl.1 rfl (lv_room (Nat.le_of_ble_eq_true rfl)) dL_law_881 ⟨Nat.le_of_ble_eq_true rfl, Nat.le_of_ble_eq_true rfl⟩) hS (fun q _ h => hFc q h) hFc (fun q u t H1 locs ht hvm hw hB hz1 hk1 hS => ?_)
  obtain ⟨rfl, rfl⟩ := hw
  obtain ⟨hP1, -⟩ := hB
  rw [ht] at hP1
  have hP : va_P (dC, dI) vwCl (wAll cs g a r867.2.1 N P I1 T1 P1 I2 T2 P2 X r867.2.2 L K r881.2) H1 := (((((((((((((((vP_keep hJ (hP.l.l.l.l.l.l.l.l.l.l.l.l.l.l) [0] [62, 63, 64, 65, 66, 67, 68, 69, 70, 71, 72, 73] rfl hec (by decide) (by decide) hk1)).app ((vP_keep hJ (hP.l.l.l.l.l.l.l.l.l.l.l.l.l.r) [1, 2, 3, 4, 5, 6, 7, 8, 9, 10, 11] [62, 63, 64, 65, 66, 67, 68, 69, 70, 71, 72, 73] rfl hec (by decide) (by decide) hk1))).app ((vP_keep hJ (hP.l.l.l.l.l.l.l.l.l.l.l.l.r) [12, 13] [62, 63, 64, 65, 66, 67, 68, 69, 70, 71, 72, 73] rfl hec (by decide) (by decide) hk1))).app ((vP_keep hJ (hP.l.l.l.l.l.l.l.l.l.l.l.r) [14] [62, 63, 64, 65, 66, 67, 68, 69, 70, 71, 72, 73] rfl hec (by decide) (by decide) hk1))).app ((vP_keep hJ (hP.l.l.l.l.l.l.l.l.l.l.r) [15, 16, 17, 18, 19, 20, 21, 22, 23, 24, 25] [62, 63, 64, 65, 66, 67, 68, 69, 70, 71, 72, 73] rfl hec (by decide) (by decide) hk1))).app ((vP_keep hJ (hP.l.l.l.l.l.l.l.l.l.r) [26, 27] [62, 63, 64, 65, 66, 67, 68, 69, 70, 71, 72, 73] rfl hec (by decide) (by decide) hk1))).app ((vP_keep hJ (hP.l.l.l.l.l.l.l.l.r) [28] [62, 63, 64, 65, 66, 67, 68, 69, 70, 71, 72, 73] rfl hec (by decide) (by decide) hk1))).app ((vP_keep hJ (hP.l.l.l.l.l.l.l.r) [29, 30, 31, 32, 33, 34, 35, 36, 37, 38, 39] [62, 63, 64, 65, 66, 67, 68, 69, 70, 71, 72, 73] rfl hec (by decide) (by decide) hk1))).app ((vP_keep hJ (hP.l.l.l.l.l.l.r) [40, 41] [62, 63, 64, 65, 66, 67, 68, 69, 70, 71, 72, 73] rfl hec (by decide) (by decide) hk1))).app ((vP_keep hJ (hP.l.l.l.l.l.r) [42, 43] [62, 63, 64, 65, 66, 67, 68, 69, 70, 71, 72, 73] rfl hec (by decide) (by decide) hk1))).app ((vP_keep hJ (hP.l.l.l.l.r) [44] [62, 63, 64, 65, 66, 67, 68, 69, 70, 71, 72, 73] rfl hec (by decide) (by decide) hk1))).app ((vP_keep hJ (hP.l.l.l.r) [45, 46, 47, 48, 49, 50, 51, 52, 53, 54, 55] [62, 63, 64, 65, 66, 67, 68, 69, 70, 71, 72, 73] rfl hec (by decide) (by decide) hk1))).app ((vP_keep hJ (hP.l.l.r) [56, 57, 58, 59] [62, 63, 64, 65, 66, 67, 68, 69, 70, 71, 72, 73] rfl hec (by decide) (by decide) hk1))).app ((vP_keep hJ (hP.l.r) [60, 61] [62, 63, 64, 65, 66, 67, 68, 69, 70, 71, 72, 73] rfl hec (by decide) (by decide) hk1))).app (hP1)
  generalize H1 = H at hP hS ⊢
  refine lv_icmp_eq (tgt := 1128) hx hb dL_law_884 (by decide) (fun c5 => ?_) (fun c5 => ?_)
  · replace hf := it_t c5 hf
    exact b_L_law_1128 C G hX hbl hbA hE hJ hA hR x3 r867.2.1 N P I1 T1 P1 I2 T2 P2 X r867.2.2 L K r881.2 hK18 _ _ _ (lv_sub hl [0, 1, 2, 3] rfl) hP hS hf
  · replace hf := it_f c5 hf
    refine lv_iconst (v := 0) hx hb dL_law_887 (by decide) ?_
    exact hR _ _ _ _ _ dL_law_888 hf hS
def f_L_law_889 (Ls : Nat) (xs : Nat → Int32) (x3 : Int32) (B : Nat → Int32) (N : Tw) (P : Ps) (I1 : Int32) (T1 : Tw) (P1 : Ps) (I2 : Int32) (T2 : Tw) (P2 : Ps) (X : Tx) (R : Tw) (L : Wl) (K : Ch) (M : Ms) (K18 : Int32 → (Nat → Int32) → Tw → Ps → Int32 → Tw → Ps → Int32 → Tw → Ps → Tx → Tw → Wl → Ch → Ms → Option Int32) : Option Int32 :=
  gi ((x3 + (1 : Int32))) Ls <|
  bn (f_X7_price (xs ((x3 + (1 : Int32))).toNatClampNeg) B N) fun r895 =>
  gi ((x3 + (1 : Int32))) Ls <|
  bn (f_X8_price (xs ((x3 + (1 : Int32))).toNatClampNeg) M) fun r904 =>
  if r895.1 = r904.1 then (
    f_L_law_1128 Ls xs x3 r895.2 N P I1 T1 P1 I2 T2 P2 X R L K r904.2 K18
  ) else (
    some (0 : Int32)
  )
set_option maxHeartbeats 4000000 in
set_option maxRecDepth 100000 in
theorem b_L_law_889 {p : Program} {l : Launch} {e : Env} {s : State} {m : MethodId} {args : Array Value} {below : List Frame} {meth : Method} {c : Code} {Q : State → Prop} {dC : Nat → ClassId} {dI : Nat → Nat → Nat} {cs : Nat → ClassId} {A : Nat → Prop} {g : Nat → Nat} {adK : Nat → Nat} {adV : Nat → Nat} {b : Nat} {a : Nat → Nat} {Ls : Nat} {xs : Nat → Int32} {res : Int32} (C : CallFix p m c cL_law 4 s args wsL_law RL) (G : GE dC dI cs s) (hX : va_X b Ls xs s s.heap) (hbl : b < s.heap.size) (hbA : ¬ A b) (hE : SE adK adV A s s.heap) (hJ : adI A (adr g a) 74) (hA : ∀ q : Nat, s.heap.size ≤ q → A q) (hR : RTw p l e s m args below meth c Q A res) (x3 : Int32) (B : Nat → Int32) (N : Tw) (P : Ps) (I1 : Int32) (T1 : Tw) (P1 : Ps) (I2 : Int32) (T2 : Tw) (P2 : Ps) (X : Tx) (R : Tw) (L : Wl) (K : Ch) (M : Ms) {K18 : Int32 → (Nat → Int32) → Tw → Ps → Int32 → Tw → Ps → Int32 → Tw → Ps → Tx → Tw → Wl → Ch → Ms → Option Int32} (hK18 : ∀ (x3 : Int32) (B : Nat → Int32) (N : Tw) (P : Ps) (I1 : Int32) (T1 : Tw) (P1 : Ps) (I2 : Int32) (T2 : Tw) (P2 : Ps) (X : Tx) (R : Tw) (L : Wl) (K : Ch) (M : Ms) (H : Heap) (locs : List Loc) (ls : Array Slot), lv_has ls 4 [(0, .ref b), (1, .ref (g 0)), (2, .ref (a 0)), (3, .int (x3))] → va_P (dC, dI) vwCl (wAll cs g a B N P I1 T1 P1 I2 T2 P2 X R L K M) H → va_S A s.heap H locs → K18 x3 B N P I1 T1 P1 I2 T2 P2 X R L K M = some res → W p l e room_1 s m args below meth c H locs 74 3434 Q (F0 m 18 ls [])) (H : Heap) (locs : List Loc) (ls : Array Slot) (hl : lv_has ls 4 [(0, .ref b), (1, .ref (g 0)), (2, .ref (a 0)), (3, .int (x3))]) (hP : va_P (dC, dI) vwCl (wAll cs g a B N P I1 T1 P1 I2 T2 P2 X R L K M) H) (hS : va_S A s.heap H locs) (hf : f_L_law_889 Ls xs x3 B N P I1 T1 P1 I2 T2 P2 X R L K M K18 = some res) : W p l e room_1 s m args below meth c H locs 74 3434 Q (F0 m 889 ls []) := by
  obtain ⟨hx, hb, hml, hown, hts⟩ := id C
  obtain ⟨hK, hN⟩ := id G
  unfold f_L_law_889 at hf
  refine lv_aload_n hx hb dL_law_889 rfl (lv_at hl 1 rfl) ?_
  refine lv_aload_n hx hb dL_law_890 rfl (lv_at hl 0 rfl) ?_
  refine lv_iload_n hx hb dL_law_891 rfl (lv_at hl 3 rfl) ?_
  refine lv_iconst (v := 1) hx hb dL_law_892 (by decide) ?_
  refine lv_iadd hx hb dL_law_893 ?_
  obtain ⟨hi1, hf⟩ := gi_e hf
  refine va_sld hx hb hX hbl hbA hS hi1 dL_law_894 ?_
  obtain ⟨r895, hr895, hf⟩ := bn_e hf
  have hPc : va_P (dC, dI) vwCl (wB g B ++ wT cs (fun i => g (1 + i)) N) _ := (hP.l.l.l.l.l.l.l.l.l.l.l.l.l.l).app (hP.l.l.l.l.l.l.l.l.l.l.l.l.l.r)
  have hec : ((wB g B ++ wT cs (fun i => g (1 + i)) N)).map Prod.fst = ([0, 1, 2, 3, 4, 5, 6, 7, 8, 9, 10, 11] : List Nat).map (adr g a) := rfl
  have hDc := vD_adr hJ [0, 1, 2, 3, 4, 5, 6, 7, 8, 9, 10, 11] (by decide) (by decide) hec
  have hFc := vF_adr hDc hS hA
  refine va_calli (va_runV (As := [.int ((xs ((x3 + (1 : Int32))).toNatClampNeg))]) (rest := []) C (c_X7_price l dC dI cs g H.size B N (xs ((x3 + (1 : Int32))).toNatClampNeg) r895 hr895) (cwV 1 hts gL_law_X7_price rfl rfl rfl (by decide +kernel) ⟨Nat.le_of_ble_eq_true rfl, Nat.le_of_ble_eq_true rfl⟩) ⟨(fun a U g mk q => ⟨q.1, q.2.1, q.2.2.1, GE.calling q.2.2.2.1, q.2.2.2.2⟩), va_recv hK hPc (ci := 7) (q0 := 0) rfl rfl, (fun U hU hW => ⟨rfl, by rw [hU], by rw [hU]; exact hPc, GE.warm hW G, hDc.weaken (fun _ _ _ _ => trivial)⟩)⟩ rfl rfl hl.1 rfl (lv_room (Nat.le_of_ble_eq_true rfl)) dL_law_895 ⟨Nat.le_of_ble_eq_true rfl, Nat.le_of_ble_eq_true rfl⟩) hS (fun q _ h => hFc q h) hFc (fun q u t H1 locs ht hvm hw hB hz1 hk1 hS => ?_)
  obtain ⟨rfl, rfl⟩ := hw
  obtain ⟨hP1, -⟩ := hB
  rw [ht] at hP1
  have hP : va_P (dC, dI) vwCl (wAll cs g a r895.2 N P I1 T1 P1 I2 T2 P2 X R L K M) H1 := ((((((((((((((hP1.l).app (hP1.r)).app ((vP_keep hJ (hP.l.l.l.l.l.l.l.l.l.l.l.l.r) [12, 13] [0, 1, 2, 3, 4, 5, 6, 7, 8, 9, 10, 11] rfl hec (by decide) (by decide) hk1))).app ((vP_keep hJ (hP.l.l.l.l.l.l.l.l.l.l.l.r) [14] [0, 1, 2, 3, 4, 5, 6, 7, 8, 9, 10, 11] rfl hec (by decide) (by decide) hk1))).app ((vP_keep hJ (hP.l.l.l.l.l.l.l.l.l.l.r) [15, 16, 17, 18, 19, 20, 21, 22, 23, 24, 25] [0, 1, 2, 3, 4, 5, 6, 7, 8, 9, 10, 11] rfl hec (by decide) (by decide) hk1))).app ((vP_keep hJ (hP.l.l.l.l.l.l.l.l.l.r) [26, 27] [0, 1, 2, 3, 4, 5, 6, 7, 8, 9, 10, 11] rfl hec (by decide) (by decide) hk1))).app ((vP_keep hJ (hP.l.l.l.l.l.l.l.l.r) [28] [0, 1, 2, 3, 4, 5, 6, 7, 8, 9, 10, 11] rfl hec (by decide) (by decide) hk1))).app ((vP_keep hJ (hP.l.l.l.l.l.l.l.r) [29, 30, 31, 32, 33, 34, 35, 36, 37, 38, 39] [0, 1, 2, 3, 4, 5, 6, 7, 8, 9, 10, 11] rfl hec (by decide) (by decide) hk1))).app ((vP_keep hJ (hP.l.l.l.l.l.l.r) [40, 41] [0, 1, 2, 3, 4, 5, 6, 7, 8, 9, 10, 11] rfl hec (by decide) (by decide) hk1))).app ((vP_keep hJ (hP.l.l.l.l.l.r) [42, 43] [0, 1, 2, 3, 4, 5, 6, 7, 8, 9, 10, 11] rfl hec (by decide) (by decide) hk1))).app ((vP_keep hJ (hP.l.l.l.l.r) [44] [0, 1, 2, 3, 4, 5, 6, 7, 8, 9, 10, 11] rfl hec (by decide) (by decide) hk1))).app ((vP_keep hJ (hP.l.l.l.r) [45, 46, 47, 48, 49, 50, 51, 52, 53, 54, 55] [0, 1, 2, 3, 4, 5, 6, 7, 8, 9, 10, 11] rfl hec (by decide) (by decide) hk1))).app ((vP_keep hJ (hP.l.l.r) [56, 57, 58, 59] [0, 1, 2, 3, 4, 5, 6, 7, 8, 9, 10, 11] rfl hec (by decide) (by decide) hk1))).app ((vP_keep hJ (hP.l.r) [60, 61] [0, 1, 2, 3, 4, 5, 6, 7, 8, 9, 10, 11] rfl hec (by decide) (by decide) hk1))).app ((vP_keep hJ (hP.r) [62, 63, 64, 65, 66, 67, 68, 69, 70, 71, 72, 73] [0, 1, 2, 3, 4, 5, 6, 7, 8, 9, 10, 11] rfl hec (by decide) (by decide) hk1))
  generalize H1 = H at hP hS ⊢
  refine lv_aload_n hx hb dL_law_898 rfl (lv_at hl 2 rfl) ?_
  refine lv_aload_n hx hb dL_law_899 rfl (lv_at hl 0 rfl) ?_
  refine lv_iload_n hx hb dL_law_900 rfl (lv_at hl 3 rfl) ?_
  refine lv_iconst (v := 1) hx hb dL_law_901 (by decide) ?_
  refine lv_iadd hx hb dL_law_902 ?_
  obtain ⟨hi2, hf⟩ := gi_e hf
  refine va_sld hx hb hX hbl hbA hS hi2 dL_law_903 ?_
  obtain ⟨r904, hr904, hf⟩ := bn_e hf
  have hPc : va_P (dC, dI) vwCl (wM cs a M) _ := hP.r
  have hec : ((wM cs a M)).map Prod.fst = ([62, 63, 64, 65, 66, 67, 68, 69, 70, 71, 72, 73] : List Nat).map (adr g a) := rfl
  have hDc := vD_adr hJ [62, 63, 64, 65, 66, 67, 68, 69, 70, 71, 72, 73] (by decide) (by decide) hec
  have hFc := vF_adr hDc hS hA
  refine va_calli (va_runV (As := [.int ((xs ((x3 + (1 : Int32))).toNatClampNeg))]) (rest := [.int (r895.1)]) C (c_X8_price l dC dI cs a H.size M (xs ((x3 + (1 : Int32))).toNatClampNeg) r904 hr904) (cwV 1 hts gL_law_X8_price rfl rfl rfl (by decide +kernel) ⟨Nat.le_of_ble_eq_true rfl, Nat.le_of_ble_eq_true rfl⟩) ⟨(fun a U g mk q => ⟨q.1, q.2.1, q.2.2.1, GE.calling q.2.2.2.1, q.2.2.2.2⟩), va_recv hK hPc (ci := 8) (q0 := 0) rfl rfl, (fun U hU hW => ⟨rfl, by rw [hU], by rw [hU]; exact hPc, GE.warm hW G, hDc.weaken (fun _ _ _ _ => trivial)⟩)⟩ rfl rfl hl.1 rfl (lv_room (Nat.le_of_ble_eq_true rfl)) dL_law_904 ⟨Nat.le_of_ble_eq_true rfl, Nat.le_of_ble_eq_true rfl⟩) hS (fun q _ h => hFc q h) hFc (fun q u t H1 locs ht hvm hw hB hz1 hk1 hS => ?_)
  obtain ⟨rfl, rfl⟩ := hw
  obtain ⟨hP1, -⟩ := hB
  rw [ht] at hP1
  have hP : va_P (dC, dI) vwCl (wAll cs g a r895.2 N P I1 T1 P1 I2 T2 P2 X R L K r904.2) H1 := (((((((((((((((vP_keep hJ (hP.l.l.l.l.l.l.l.l.l.l.l.l.l.l) [0] [62, 63, 64, 65, 66, 67, 68, 69, 70, 71, 72, 73] rfl hec (by decide) (by decide) hk1)).app ((vP_keep hJ (hP.l.l.l.l.l.l.l.l.l.l.l.l.l.r) [1, 2, 3, 4, 5, 6, 7, 8, 9, 10, 11] [62, 63, 64, 65, 66, 67, 68, 69, 70, 71, 72, 73] rfl hec (by decide) (by decide) hk1))).app ((vP_keep hJ (hP.l.l.l.l.l.l.l.l.l.l.l.l.r) [12, 13] [62, 63, 64, 65, 66, 67, 68, 69, 70, 71, 72, 73] rfl hec (by decide) (by decide) hk1))).app ((vP_keep hJ (hP.l.l.l.l.l.l.l.l.l.l.l.r) [14] [62, 63, 64, 65, 66, 67, 68, 69, 70, 71, 72, 73] rfl hec (by decide) (by decide) hk1))).app ((vP_keep hJ (hP.l.l.l.l.l.l.l.l.l.l.r) [15, 16, 17, 18, 19, 20, 21, 22, 23, 24, 25] [62, 63, 64, 65, 66, 67, 68, 69, 70, 71, 72, 73] rfl hec (by decide) (by decide) hk1))).app ((vP_keep hJ (hP.l.l.l.l.l.l.l.l.l.r) [26, 27] [62, 63, 64, 65, 66, 67, 68, 69, 70, 71, 72, 73] rfl hec (by decide) (by decide) hk1))).app ((vP_keep hJ (hP.l.l.l.l.l.l.l.l.r) [28] [62, 63, 64, 65, 66, 67, 68, 69, 70, 71, 72, 73] rfl hec (by decide) (by decide) hk1))).app ((vP_keep hJ (hP.l.l.l.l.l.l.l.r) [29, 30, 31, 32, 33, 34, 35, 36, 37, 38, 39] [62, 63, 64, 65, 66, 67, 68, 69, 70, 71, 72, 73] rfl hec (by decide) (by decide) hk1))).app ((vP_keep hJ (hP.l.l.l.l.l.l.r) [40, 41] [62, 63, 64, 65, 66, 67, 68, 69, 70, 71, 72, 73] rfl hec (by decide) (by decide) hk1))).app ((vP_keep hJ (hP.l.l.l.l.l.r) [42, 43] [62, 63, 64, 65, 66, 67, 68, 69, 70, 71, 72, 73] rfl hec (by decide) (by decide) hk1))).app ((vP_keep hJ (hP.l.l.l.l.r) [44] [62, 63, 64, 65, 66, 67, 68, 69, 70, 71, 72, 73] rfl hec (by decide) (by decide) hk1))).app ((vP_keep hJ (hP.l.l.l.r) [45, 46, 47, 48, 49, 50, 51, 52, 53, 54, 55] [62, 63, 64, 65, 66, 67, 68, 69, 70, 71, 72, 73] rfl hec (by decide) (by decide) hk1))).app ((vP_keep hJ (hP.l.l.r) [56, 57, 58, 59] [62, 63, 64, 65, 66, 67, 68, 69, 70, 71, 72, 73] rfl hec (by decide) (by decide) hk1))).app ((vP_keep hJ (hP.l.r) [60, 61] [62, 63, 64, 65, 66, 67, 68, 69, 70, 71, 72, 73] rfl hec (by decide) (by decide) hk1))).app (hP1)
  generalize H1 = H at hP hS ⊢
  refine lv_icmp_eq (tgt := 1128) hx hb dL_law_907 (by decide) (fun c3 => ?_) (fun c3 => ?_)
  · replace hf := it_t c3 hf
    exact b_L_law_1128 C G hX hbl hbA hE hJ hA hR x3 r895.2 N P I1 T1 P1 I2 T2 P2 X R L K r904.2 hK18 _ _ _ (lv_sub hl [0, 1, 2, 3] rfl) hP hS hf
  · replace hf := it_f c3 hf
    refine lv_iconst (v := 0) hx hb dL_law_910 (by decide) ?_
    exact hR _ _ _ _ _ dL_law_911 hf hS
def f_L_law_912 (Ls : Nat) (xs : Nat → Int32) (x3 : Int32) (B : Nat → Int32) (N : Tw) (P : Ps) (I1 : Int32) (T1 : Tw) (P1 : Ps) (I2 : Int32) (T2 : Tw) (P2 : Ps) (X : Tx) (R : Tw) (L : Wl) (K : Ch) (M : Ms) (K18 : Int32 → (Nat → Int32) → Tw → Ps → Int32 → Tw → Ps → Int32 → Tw → Ps → Tx → Tw → Wl → Ch → Ms → Option Int32) : Option Int32 :=
  gi ((x3 + (1 : Int32))) Ls <|
  gi ((x3 + (2 : Int32))) Ls <|
  bn (f_X7_luck (xs ((x3 + (1 : Int32))).toNatClampNeg) (xs ((x3 + (2 : Int32))).toNatClampNeg) B N K) fun r923 =>
  gi ((x3 + (1 : Int32))) Ls <|
  gi ((x3 + (2 : Int32))) Ls <|
  bn (f_X8_luck (xs ((x3 + (1 : Int32))).toNatClampNeg) (xs ((x3 + (2 : Int32))).toNatClampNeg) M) fun r937 =>
  if r923.1 = r937.1 then (
    f_L_law_1128 Ls xs x3 r923.2.1 N P I1 T1 P1 I2 T2 P2 X R L r923.2.2 r937.2 K18
  ) else (
    some (0 : Int32)
  )
set_option maxHeartbeats 4000000 in
set_option maxRecDepth 100000 in
theorem b_L_law_912 {p : Program} {l : Launch} {e : Env} {s : State} {m : MethodId} {args : Array Value} {below : List Frame} {meth : Method} {c : Code} {Q : State → Prop} {dC : Nat → ClassId} {dI : Nat → Nat → Nat} {cs : Nat → ClassId} {A : Nat → Prop} {g : Nat → Nat} {adK : Nat → Nat} {adV : Nat → Nat} {b : Nat} {a : Nat → Nat} {Ls : Nat} {xs : Nat → Int32} {res : Int32} (C : CallFix p m c cL_law 4 s args wsL_law RL) (G : GE dC dI cs s) (hX : va_X b Ls xs s s.heap) (hbl : b < s.heap.size) (hbA : ¬ A b) (hE : SE adK adV A s s.heap) (hJ : adI A (adr g a) 74) (hA : ∀ q : Nat, s.heap.size ≤ q → A q) (hR : RTw p l e s m args below meth c Q A res) (x3 : Int32) (B : Nat → Int32) (N : Tw) (P : Ps) (I1 : Int32) (T1 : Tw) (P1 : Ps) (I2 : Int32) (T2 : Tw) (P2 : Ps) (X : Tx) (R : Tw) (L : Wl) (K : Ch) (M : Ms) {K18 : Int32 → (Nat → Int32) → Tw → Ps → Int32 → Tw → Ps → Int32 → Tw → Ps → Tx → Tw → Wl → Ch → Ms → Option Int32} (hK18 : ∀ (x3 : Int32) (B : Nat → Int32) (N : Tw) (P : Ps) (I1 : Int32) (T1 : Tw) (P1 : Ps) (I2 : Int32) (T2 : Tw) (P2 : Ps) (X : Tx) (R : Tw) (L : Wl) (K : Ch) (M : Ms) (H : Heap) (locs : List Loc) (ls : Array Slot), lv_has ls 4 [(0, .ref b), (1, .ref (g 0)), (2, .ref (a 0)), (3, .int (x3))] → va_P (dC, dI) vwCl (wAll cs g a B N P I1 T1 P1 I2 T2 P2 X R L K M) H → va_S A s.heap H locs → K18 x3 B N P I1 T1 P1 I2 T2 P2 X R L K M = some res → W p l e room_1 s m args below meth c H locs 74 3434 Q (F0 m 18 ls [])) (H : Heap) (locs : List Loc) (ls : Array Slot) (hl : lv_has ls 4 [(0, .ref b), (1, .ref (g 0)), (2, .ref (a 0)), (3, .int (x3))]) (hP : va_P (dC, dI) vwCl (wAll cs g a B N P I1 T1 P1 I2 T2 P2 X R L K M) H) (hS : va_S A s.heap H locs) (hf : f_L_law_912 Ls xs x3 B N P I1 T1 P1 I2 T2 P2 X R L K M K18 = some res) : W p l e room_1 s m args below meth c H locs 74 3434 Q (F0 m 912 ls []) := by
  obtain ⟨hx, hb, hml, hown, hts⟩ := id C
  obtain ⟨hK, hN⟩ := id G
  unfold f_L_law_912 at hf
  refine lv_aload_n hx hb dL_law_912 rfl (lv_at hl 1 rfl) ?_
  refine lv_aload_n hx hb dL_law_913 rfl (lv_at hl 0 rfl) ?_
  refine lv_iload_n hx hb dL_law_914 rfl (lv_at hl 3 rfl) ?_
  refine lv_iconst (v := 1) hx hb dL_law_915 (by decide) ?_
  refine lv_iadd hx hb dL_law_916 ?_
  obtain ⟨hi1, hf⟩ := gi_e hf
  refine va_sld hx hb hX hbl hbA hS hi1 dL_law_917 ?_
  refine lv_aload_n hx hb dL_law_918 rfl (lv_at hl 0 rfl) ?_
  refine lv_iload_n hx hb dL_law_919 rfl (lv_at hl 3 rfl) ?_
  refine lv_iconst (v := 2) hx hb dL_law_920 (by decide) ?_
  refine lv_iadd hx hb dL_law_921 ?_
  obtain ⟨hi2, hf⟩ := gi_e hf
  refine va_sld hx hb hX hbl hbA hS hi2 dL_law_922 ?_
  obtain ⟨r923, hr923, hf⟩ := bn_e hf
  have hPc : va_P (dC, dI) vwCl (wB g B ++ wT cs (fun i => g (1 + i)) N ++ wC cs (fun i => g (60 + i)) K) _ := ((hP.l.l.l.l.l.l.l.l.l.l.l.l.l.l).app (hP.l.l.l.l.l.l.l.l.l.l.l.l.l.r)).app (hP.l.r)
  have hec : ((wB g B ++ wT cs (fun i => g (1 + i)) N ++ wC cs (fun i => g (60 + i)) K)).map Prod.fst = ([0, 1, 2, 3, 4, 5, 6, 7, 8, 9, 10, 11, 60, 61] : List Nat).map (adr g a) := rfl
  have hDc := vD_adr hJ [0, 1, 2, 3, 4, 5, 6, 7, 8, 9, 10, 11, 60, 61] (by decide) (by decide) hec
  have hFc := vF_adr hDc hS hA
  refine va_calli (va_runV (As := [.int ((xs ((x3 + (1 : Int32))).toNatClampNeg)), .int ((xs ((x3 + (2 : Int32))).toNatClampNeg))]) (rest := []) C (c_X7_luck l dC dI cs g H.size B N K (xs ((x3 + (1 : Int32))).toNatClampNeg) (xs ((x3 + (2 : Int32))).toNatClampNeg) r923 hr923) (cwV 2 hts gL_law_X7_luck rfl rfl rfl (by decide +kernel) ⟨Nat.le_of_ble_eq_true rfl, Nat.le_of_ble_eq_true rfl⟩) ⟨(fun a U g mk q => ⟨q.1, q.2.1, q.2.2.1, GE.calling q.2.2.2.1, q.2.2.2.2⟩), va_recv hK hPc (ci := 7) (q0 := 0) rfl rfl, (fun U hU hW => ⟨rfl, by rw [hU], by rw [hU]; exact hPc, GE.warm hW G, hDc.weaken (fun _ _ _ _ => trivial)⟩)⟩ rfl rfl hl.1 rfl (lv_room (Nat.le_of_ble_eq_true rfl)) dL_law_923 ⟨Nat.le_of_ble_eq_true rfl, Nat.le_of_ble_eq_true rfl⟩) hS (fun q _ h => hFc q h) hFc (fun q u t H1 locs ht hvm hw hB hz1 hk1 hS => ?_)
  obtain ⟨rfl, rfl⟩ := hw
  obtain ⟨hP1, -⟩ := hB
  rw [ht] at hP1
  have hP : va_P (dC, dI) vwCl (wAll cs g a r923.2.1 N P I1 T1 P1 I2 T2 P2 X R L r923.2.2 M) H1 := ((((((((((((((hP1.l.l).app (hP1.l.r)).app ((vP_keep hJ (hP.l.l.l.l.l.l.l.l.l.l.l.l.r) [12, 13] [0, 1, 2, 3, 4, 5, 6, 7, 8, 9, 10, 11, 60, 61] rfl hec (by decide) (by decide) hk1))).app ((vP_keep hJ (hP.l.l.l.l.l.l.l.l.l.l.l.r) [14] [0, 1, 2, 3, 4, 5, 6, 7, 8, 9, 10, 11, 60, 61] rfl hec (by decide) (by decide) hk1))).app ((vP_keep hJ (hP.l.l.l.l.l.l.l.l.l.l.r) [15, 16, 17, 18, 19, 20, 21, 22, 23, 24, 25] [0, 1, 2, 3, 4, 5, 6, 7, 8, 9, 10, 11, 60, 61] rfl hec (by decide) (by decide) hk1))).app ((vP_keep hJ (hP.l.l.l.l.l.l.l.l.l.r) [26, 27] [0, 1, 2, 3, 4, 5, 6, 7, 8, 9, 10, 11, 60, 61] rfl hec (by decide) (by decide) hk1))).app ((vP_keep hJ (hP.l.l.l.l.l.l.l.l.r) [28] [0, 1, 2, 3, 4, 5, 6, 7, 8, 9, 10, 11, 60, 61] rfl hec (by decide) (by decide) hk1))).app ((vP_keep hJ (hP.l.l.l.l.l.l.l.r) [29, 30, 31, 32, 33, 34, 35, 36, 37, 38, 39] [0, 1, 2, 3, 4, 5, 6, 7, 8, 9, 10, 11, 60, 61] rfl hec (by decide) (by decide) hk1))).app ((vP_keep hJ (hP.l.l.l.l.l.l.r) [40, 41] [0, 1, 2, 3, 4, 5, 6, 7, 8, 9, 10, 11, 60, 61] rfl hec (by decide) (by decide) hk1))).app ((vP_keep hJ (hP.l.l.l.l.l.r) [42, 43] [0, 1, 2, 3, 4, 5, 6, 7, 8, 9, 10, 11, 60, 61] rfl hec (by decide) (by decide) hk1))).app ((vP_keep hJ (hP.l.l.l.l.r) [44] [0, 1, 2, 3, 4, 5, 6, 7, 8, 9, 10, 11, 60, 61] rfl hec (by decide) (by decide) hk1))).app ((vP_keep hJ (hP.l.l.l.r) [45, 46, 47, 48, 49, 50, 51, 52, 53, 54, 55] [0, 1, 2, 3, 4, 5, 6, 7, 8, 9, 10, 11, 60, 61] rfl hec (by decide) (by decide) hk1))).app ((vP_keep hJ (hP.l.l.r) [56, 57, 58, 59] [0, 1, 2, 3, 4, 5, 6, 7, 8, 9, 10, 11, 60, 61] rfl hec (by decide) (by decide) hk1))).app (hP1.r)).app ((vP_keep hJ (hP.r) [62, 63, 64, 65, 66, 67, 68, 69, 70, 71, 72, 73] [0, 1, 2, 3, 4, 5, 6, 7, 8, 9, 10, 11, 60, 61] rfl hec (by decide) (by decide) hk1))
  generalize H1 = H at hP hS ⊢
  refine lv_aload_n hx hb dL_law_926 rfl (lv_at hl 2 rfl) ?_
  refine lv_aload_n hx hb dL_law_927 rfl (lv_at hl 0 rfl) ?_
  refine lv_iload_n hx hb dL_law_928 rfl (lv_at hl 3 rfl) ?_
  refine lv_iconst (v := 1) hx hb dL_law_929 (by decide) ?_
  refine lv_iadd hx hb dL_law_930 ?_
  obtain ⟨hi3, hf⟩ := gi_e hf
  refine va_sld hx hb hX hbl hbA hS hi3 dL_law_931 ?_
  refine lv_aload_n hx hb dL_law_932 rfl (lv_at hl 0 rfl) ?_
  refine lv_iload_n hx hb dL_law_933 rfl (lv_at hl 3 rfl) ?_
  refine lv_iconst (v := 2) hx hb dL_law_934 (by decide) ?_
  refine lv_iadd hx hb dL_law_935 ?_
  obtain ⟨hi4, hf⟩ := gi_e hf
  refine va_sld hx hb hX hbl hbA hS hi4 dL_law_936 ?_
  obtain ⟨r937, hr937, hf⟩ := bn_e hf
  have hPc : va_P (dC, dI) vwCl (wM cs a M) _ := hP.r
  have hec : ((wM cs a M)).map Prod.fst = ([62, 63, 64, 65, 66, 67, 68, 69, 70, 71, 72, 73] : List Nat).map (adr g a) := rfl
  have hDc := vD_adr hJ [62, 63, 64, 65, 66, 67, 68, 69, 70, 71, 72, 73] (by decide) (by decide) hec
  have hFc := vF_adr hDc hS hA
  refine va_calli (va_runV (As := [.int ((xs ((x3 + (1 : Int32))).toNatClampNeg)), .int ((xs ((x3 + (2 : Int32))).toNatClampNeg))]) (rest := [.int (r923.1)]) C (c_X8_luck l dC dI cs a H.size M (xs ((x3 + (1 : Int32))).toNatClampNeg) (xs ((x3 + (2 : Int32))).toNatClampNeg) r937 hr937) (cwV 2 hts gL_law_X8_luck rfl rfl rfl (by decide +kernel) ⟨Nat.le_of_ble_eq_true rfl, Nat.le_of_ble_eq_true rfl⟩) ⟨(fun a U g mk q => ⟨q.1, q.2.1, q.2.2.1, GE.calling q.2.2.2.1, q.2.2.2.2⟩), va_recv hK hPc (ci := 8) (q0 := 0) rfl rfl, (fun U hU hW => ⟨rfl, by rw [hU], by rw [hU]; exact hPc, GE.warm hW G, hDc.weaken (fun _ _ _ _ => trivial)⟩)⟩ rfl rfl hl.1 rfl (lv_room (Nat.le_of_ble_eq_true rfl)) dL_law_937 ⟨Nat.le_of_ble_eq_true rfl, Nat.le_of_ble_eq_true rfl⟩) hS (fun q _ h => hFc q h) hFc (fun q u t H1 locs ht hvm hw hB hz1 hk1 hS => ?_)
  obtain ⟨rfl, rfl⟩ := hw
  obtain ⟨hP1, -⟩ := hB
  rw [ht] at hP1
  have hP : va_P (dC, dI) vwCl (wAll cs g a r923.2.1 N P I1 T1 P1 I2 T2 P2 X R L r923.2.2 r937.2) H1 := (((((((((((((((vP_keep hJ (hP.l.l.l.l.l.l.l.l.l.l.l.l.l.l) [0] [62, 63, 64, 65, 66, 67, 68, 69, 70, 71, 72, 73] rfl hec (by decide) (by decide) hk1)).app ((vP_keep hJ (hP.l.l.l.l.l.l.l.l.l.l.l.l.l.r) [1, 2, 3, 4, 5, 6, 7, 8, 9, 10, 11] [62, 63, 64, 65, 66, 67, 68, 69, 70, 71, 72, 73] rfl hec (by decide) (by decide) hk1))).app ((vP_keep hJ (hP.l.l.l.l.l.l.l.l.l.l.l.l.r) [12, 13] [62, 63, 64, 65, 66, 67, 68, 69, 70, 71, 72, 73] rfl hec (by decide) (by decide) hk1))).app ((vP_keep hJ (hP.l.l.l.l.l.l.l.l.l.l.l.r) [14] [62, 63, 64, 65, 66, 67, 68, 69, 70, 71, 72, 73] rfl hec (by decide) (by decide) hk1))).app ((vP_keep hJ (hP.l.l.l.l.l.l.l.l.l.l.r) [15, 16, 17, 18, 19, 20, 21, 22, 23, 24, 25] [62, 63, 64, 65, 66, 67, 68, 69, 70, 71, 72, 73] rfl hec (by decide) (by decide) hk1))).app ((vP_keep hJ (hP.l.l.l.l.l.l.l.l.l.r) [26, 27] [62, 63, 64, 65, 66, 67, 68, 69, 70, 71, 72, 73] rfl hec (by decide) (by decide) hk1))).app ((vP_keep hJ (hP.l.l.l.l.l.l.l.l.r) [28] [62, 63, 64, 65, 66, 67, 68, 69, 70, 71, 72, 73] rfl hec (by decide) (by decide) hk1))).app ((vP_keep hJ (hP.l.l.l.l.l.l.l.r) [29, 30, 31, 32, 33, 34, 35, 36, 37, 38, 39] [62, 63, 64, 65, 66, 67, 68, 69, 70, 71, 72, 73] rfl hec (by decide) (by decide) hk1))).app ((vP_keep hJ (hP.l.l.l.l.l.l.r) [40, 41] [62, 63, 64, 65, 66, 67, 68, 69, 70, 71, 72, 73] rfl hec (by decide) (by decide) hk1))).app ((vP_keep hJ (hP.l.l.l.l.l.r) [42, 43] [62, 63, 64, 65, 66, 67, 68, 69, 70, 71, 72, 73] rfl hec (by decide) (by decide) hk1))).app ((vP_keep hJ (hP.l.l.l.l.r) [44] [62, 63, 64, 65, 66, 67, 68, 69, 70, 71, 72, 73] rfl hec (by decide) (by decide) hk1))).app ((vP_keep hJ (hP.l.l.l.r) [45, 46, 47, 48, 49, 50, 51, 52, 53, 54, 55] [62, 63, 64, 65, 66, 67, 68, 69, 70, 71, 72, 73] rfl hec (by decide) (by decide) hk1))).app ((vP_keep hJ (hP.l.l.r) [56, 57, 58, 59] [62, 63, 64, 65, 66, 67, 68, 69, 70, 71, 72, 73] rfl hec (by decide) (by decide) hk1))).app ((vP_keep hJ (hP.l.r) [60, 61] [62, 63, 64, 65, 66, 67, 68, 69, 70, 71, 72, 73] rfl hec (by decide) (by decide) hk1))).app (hP1)
  generalize H1 = H at hP hS ⊢
  refine lv_icmp_eq (tgt := 1128) hx hb dL_law_940 (by decide) (fun c5 => ?_) (fun c5 => ?_)
  · replace hf := it_t c5 hf
    exact b_L_law_1128 C G hX hbl hbA hE hJ hA hR x3 r923.2.1 N P I1 T1 P1 I2 T2 P2 X R L r923.2.2 r937.2 hK18 _ _ _ (lv_sub hl [0, 1, 2, 3] rfl) hP hS hf
  · replace hf := it_f c5 hf
    refine lv_iconst (v := 0) hx hb dL_law_943 (by decide) ?_
    exact hR _ _ _ _ _ dL_law_944 hf hS
def f_L_law_945 (Ls : Nat) (xs : Nat → Int32) (x3 : Int32) (B : Nat → Int32) (N : Tw) (P : Ps) (I1 : Int32) (T1 : Tw) (P1 : Ps) (I2 : Int32) (T2 : Tw) (P2 : Ps) (X : Tx) (R : Tw) (L : Wl) (K : Ch) (M : Ms) (K18 : Int32 → (Nat → Int32) → Tw → Ps → Int32 → Tw → Ps → Int32 → Tw → Ps → Tx → Tw → Wl → Ch → Ms → Option Int32) : Option Int32 :=
  gi ((x3 + (1 : Int32))) Ls <|
  gi ((x3 + (2 : Int32))) Ls <|
  gi ((x3 + (3 : Int32))) Ls <|
  gi ((x3 + (4 : Int32))) Ls <|
  bn (f_X7_drawn (xs ((x3 + (1 : Int32))).toNatClampNeg) (xs ((x3 + (2 : Int32))).toNatClampNeg) (xs ((x3 + (3 : Int32))).toNatClampNeg) (xs ((x3 + (4 : Int32))).toNatClampNeg) B N R) fun r966 =>
  gi ((x3 + (1 : Int32))) Ls <|
  gi ((x3 + (2 : Int32))) Ls <|
  gi ((x3 + (3 : Int32))) Ls <|
  gi ((x3 + (4 : Int32))) Ls <|
  bn (f_X8_drawn (xs ((x3 + (1 : Int32))).toNatClampNeg) (xs ((x3 + (2 : Int32))).toNatClampNeg) (xs ((x3 + (3 : Int32))).toNatClampNeg) (xs ((x3 + (4 : Int32))).toNatClampNeg) M) fun r990 =>
  if r966.1 = r990.1 then (
    f_L_law_1128 Ls xs x3 r966.2.1 N P I1 T1 P1 I2 T2 P2 X r966.2.2 L K r990.2 K18
  ) else (
    some (0 : Int32)
  )
set_option maxHeartbeats 4000000 in
set_option maxRecDepth 100000 in
theorem b_L_law_945 {p : Program} {l : Launch} {e : Env} {s : State} {m : MethodId} {args : Array Value} {below : List Frame} {meth : Method} {c : Code} {Q : State → Prop} {dC : Nat → ClassId} {dI : Nat → Nat → Nat} {cs : Nat → ClassId} {A : Nat → Prop} {g : Nat → Nat} {adK : Nat → Nat} {adV : Nat → Nat} {b : Nat} {a : Nat → Nat} {Ls : Nat} {xs : Nat → Int32} {res : Int32} (C : CallFix p m c cL_law 4 s args wsL_law RL) (G : GE dC dI cs s) (hX : va_X b Ls xs s s.heap) (hbl : b < s.heap.size) (hbA : ¬ A b) (hE : SE adK adV A s s.heap) (hJ : adI A (adr g a) 74) (hA : ∀ q : Nat, s.heap.size ≤ q → A q) (hR : RTw p l e s m args below meth c Q A res) (x3 : Int32) (B : Nat → Int32) (N : Tw) (P : Ps) (I1 : Int32) (T1 : Tw) (P1 : Ps) (I2 : Int32) (T2 : Tw) (P2 : Ps) (X : Tx) (R : Tw) (L : Wl) (K : Ch) (M : Ms) {K18 : Int32 → (Nat → Int32) → Tw → Ps → Int32 → Tw → Ps → Int32 → Tw → Ps → Tx → Tw → Wl → Ch → Ms → Option Int32} (hK18 : ∀ (x3 : Int32) (B : Nat → Int32) (N : Tw) (P : Ps) (I1 : Int32) (T1 : Tw) (P1 : Ps) (I2 : Int32) (T2 : Tw) (P2 : Ps) (X : Tx) (R : Tw) (L : Wl) (K : Ch) (M : Ms) (H : Heap) (locs : List Loc) (ls : Array Slot), lv_has ls 4 [(0, .ref b), (1, .ref (g 0)), (2, .ref (a 0)), (3, .int (x3))] → va_P (dC, dI) vwCl (wAll cs g a B N P I1 T1 P1 I2 T2 P2 X R L K M) H → va_S A s.heap H locs → K18 x3 B N P I1 T1 P1 I2 T2 P2 X R L K M = some res → W p l e room_1 s m args below meth c H locs 74 3434 Q (F0 m 18 ls [])) (H : Heap) (locs : List Loc) (ls : Array Slot) (hl : lv_has ls 4 [(0, .ref b), (1, .ref (g 0)), (2, .ref (a 0)), (3, .int (x3))]) (hP : va_P (dC, dI) vwCl (wAll cs g a B N P I1 T1 P1 I2 T2 P2 X R L K M) H) (hS : va_S A s.heap H locs) (hf : f_L_law_945 Ls xs x3 B N P I1 T1 P1 I2 T2 P2 X R L K M K18 = some res) : W p l e room_1 s m args below meth c H locs 74 3434 Q (F0 m 945 ls []) := by
  obtain ⟨hx, hb, hml, hown, hts⟩ := id C
  obtain ⟨hK, hN⟩ := id G
  unfold f_L_law_945 at hf
  refine lv_aload_n hx hb dL_law_945 rfl (lv_at hl 1 rfl) ?_
  refine lv_aload_n hx hb dL_law_946 rfl (lv_at hl 0 rfl) ?_
  refine lv_iload_n hx hb dL_law_947 rfl (lv_at hl 3 rfl) ?_
  refine lv_iconst (v := 1) hx hb dL_law_948 (by decide) ?_
  refine lv_iadd hx hb dL_law_949 ?_
  obtain ⟨hi1, hf⟩ := gi_e hf
  refine va_sld hx hb hX hbl hbA hS hi1 dL_law_950 ?_
  refine lv_aload_n hx hb dL_law_951 rfl (lv_at hl 0 rfl) ?_
  refine lv_iload_n hx hb dL_law_952 rfl (lv_at hl 3 rfl) ?_
  refine lv_iconst (v := 2) hx hb dL_law_953 (by decide) ?_
  refine lv_iadd hx hb dL_law_954 ?_
  obtain ⟨hi2, hf⟩ := gi_e hf
  refine va_sld hx hb hX hbl hbA hS hi2 dL_law_955 ?_
  refine lv_aload_n hx hb dL_law_956 rfl (lv_at hl 0 rfl) ?_
  refine lv_iload_n hx hb dL_law_957 rfl (lv_at hl 3 rfl) ?_
  refine lv_iconst (v := 3) hx hb dL_law_958 (by decide) ?_
  refine lv_iadd hx hb dL_law_959 ?_
  obtain ⟨hi3, hf⟩ := gi_e hf
  refine va_sld hx hb hX hbl hbA hS hi3 dL_law_960 ?_
  refine lv_aload_n hx hb dL_law_961 rfl (lv_at hl 0 rfl) ?_
  refine lv_iload_n hx hb dL_law_962 rfl (lv_at hl 3 rfl) ?_
  refine lv_iconst (v := 4) hx hb dL_law_963 (by decide) ?_
  refine lv_iadd hx hb dL_law_964 ?_
  obtain ⟨hi4, hf⟩ := gi_e hf
  refine va_sld hx hb hX hbl hbA hS hi4 dL_law_965 ?_
  obtain ⟨r966, hr966, hf⟩ := bn_e hf
  have hPc : va_P (dC, dI) vwCl (wB g B ++ wT cs (fun i => g (1 + i)) N ++ wF (g 44) (g 45) ++ wT cs (fun i => g (45 + i)) R) _ := (((hP.l.l.l.l.l.l.l.l.l.l.l.l.l.l).app (hP.l.l.l.l.l.l.l.l.l.l.l.l.l.r)).app (hP.l.l.l.l.r)).app (hP.l.l.l.r)
  have hec : ((wB g B ++ wT cs (fun i => g (1 + i)) N ++ wF (g 44) (g 45) ++ wT cs (fun i => g (45 + i)) R)).map Prod.fst = ([0, 1, 2, 3, 4, 5, 6, 7, 8, 9, 10, 11, 44, 45, 46, 47, 48, 49, 50, 51, 52, 53, 54, 55] : List Nat).map (adr g a) := rfl
  have hDc := vD_adr hJ [0, 1, 2, 3, 4, 5, 6, 7, 8, 9, 10, 11, 44, 45, 46, 47, 48, 49, 50, 51, 52, 53, 54, 55] (by decide) (by decide) hec
  have hFc := vF_adr hDc hS hA
  refine va_calli (va_runV (As := [.int ((xs ((x3 + (1 : Int32))).toNatClampNeg)), .int ((xs ((x3 + (2 : Int32))).toNatClampNeg)), .int ((xs ((x3 + (3 : Int32))).toNatClampNeg)), .int ((xs ((x3 + (4 : Int32))).toNatClampNeg))]) (rest := []) C (c_X7_drawn l dC dI cs g H.size B N R (xs ((x3 + (1 : Int32))).toNatClampNeg) (xs ((x3 + (2 : Int32))).toNatClampNeg) (xs ((x3 + (3 : Int32))).toNatClampNeg) (xs ((x3 + (4 : Int32))).toNatClampNeg) r966 hr966) (cwV 4 hts gL_law_X7_drawn rfl rfl rfl (by decide +kernel) ⟨Nat.le_of_ble_eq_true rfl, Nat.le_of_ble_eq_true rfl⟩) ⟨(fun a U g mk q => ⟨q.1, q.2.1, q.2.2.1, GE.calling q.2.2.2.1, q.2.2.2.2⟩), va_recv hK hPc (ci := 7) (q0 := 0) rfl rfl, (fun U hU hW => ⟨rfl, by rw [hU], by rw [hU]; exact hPc, GE.warm hW G, hDc.weaken (fun _ _ _ _ => trivial)⟩)⟩ rfl rfl hl.1 rfl (lv_room (Nat.le_of_ble_eq_true rfl)) dL_law_966 ⟨Nat.le_of_ble_eq_true rfl, Nat.le_of_ble_eq_true rfl⟩) hS (fun q _ h => hFc q h) hFc (fun q u t H1 locs ht hvm hw hB hz1 hk1 hS => ?_)
  obtain ⟨rfl, rfl⟩ := hw
  obtain ⟨hP1, -⟩ := hB
  rw [ht] at hP1
  have hP : va_P (dC, dI) vwCl (wAll cs g a r966.2.1 N P I1 T1 P1 I2 T2 P2 X r966.2.2 L K M) H1 := ((((((((((((((hP1.l.l.l).app (hP1.l.l.r)).app ((vP_keep hJ (hP.l.l.l.l.l.l.l.l.l.l.l.l.r) [12, 13] [0, 1, 2, 3, 4, 5, 6, 7, 8, 9, 10, 11, 44, 45, 46, 47, 48, 49, 50, 51, 52, 53, 54, 55] rfl hec (by decide) (by decide) hk1))).app ((vP_keep hJ (hP.l.l.l.l.l.l.l.l.l.l.l.r) [14] [0, 1, 2, 3, 4, 5, 6, 7, 8, 9, 10, 11, 44, 45, 46, 47, 48, 49, 50, 51, 52, 53, 54, 55] rfl hec (by decide) (by decide) hk1))).app ((vP_keep hJ (hP.l.l.l.l.l.l.l.l.l.l.r) [15, 16, 17, 18, 19, 20, 21, 22, 23, 24, 25] [0, 1, 2, 3, 4, 5, 6, 7, 8, 9, 10, 11, 44, 45, 46, 47, 48, 49, 50, 51, 52, 53, 54, 55] rfl hec (by decide) (by decide) hk1))).app ((vP_keep hJ (hP.l.l.l.l.l.l.l.l.l.r) [26, 27] [0, 1, 2, 3, 4, 5, 6, 7, 8, 9, 10, 11, 44, 45, 46, 47, 48, 49, 50, 51, 52, 53, 54, 55] rfl hec (by decide) (by decide) hk1))).app ((vP_keep hJ (hP.l.l.l.l.l.l.l.l.r) [28] [0, 1, 2, 3, 4, 5, 6, 7, 8, 9, 10, 11, 44, 45, 46, 47, 48, 49, 50, 51, 52, 53, 54, 55] rfl hec (by decide) (by decide) hk1))).app ((vP_keep hJ (hP.l.l.l.l.l.l.l.r) [29, 30, 31, 32, 33, 34, 35, 36, 37, 38, 39] [0, 1, 2, 3, 4, 5, 6, 7, 8, 9, 10, 11, 44, 45, 46, 47, 48, 49, 50, 51, 52, 53, 54, 55] rfl hec (by decide) (by decide) hk1))).app ((vP_keep hJ (hP.l.l.l.l.l.l.r) [40, 41] [0, 1, 2, 3, 4, 5, 6, 7, 8, 9, 10, 11, 44, 45, 46, 47, 48, 49, 50, 51, 52, 53, 54, 55] rfl hec (by decide) (by decide) hk1))).app ((vP_keep hJ (hP.l.l.l.l.l.r) [42, 43] [0, 1, 2, 3, 4, 5, 6, 7, 8, 9, 10, 11, 44, 45, 46, 47, 48, 49, 50, 51, 52, 53, 54, 55] rfl hec (by decide) (by decide) hk1))).app (hP1.l.r)).app (hP1.r)).app ((vP_keep hJ (hP.l.l.r) [56, 57, 58, 59] [0, 1, 2, 3, 4, 5, 6, 7, 8, 9, 10, 11, 44, 45, 46, 47, 48, 49, 50, 51, 52, 53, 54, 55] rfl hec (by decide) (by decide) hk1))).app ((vP_keep hJ (hP.l.r) [60, 61] [0, 1, 2, 3, 4, 5, 6, 7, 8, 9, 10, 11, 44, 45, 46, 47, 48, 49, 50, 51, 52, 53, 54, 55] rfl hec (by decide) (by decide) hk1))).app ((vP_keep hJ (hP.r) [62, 63, 64, 65, 66, 67, 68, 69, 70, 71, 72, 73] [0, 1, 2, 3, 4, 5, 6, 7, 8, 9, 10, 11, 44, 45, 46, 47, 48, 49, 50, 51, 52, 53, 54, 55] rfl hec (by decide) (by decide) hk1))
  generalize H1 = H at hP hS ⊢
  refine lv_aload_n hx hb dL_law_969 rfl (lv_at hl 2 rfl) ?_
  refine lv_aload_n hx hb dL_law_970 rfl (lv_at hl 0 rfl) ?_
  refine lv_iload_n hx hb dL_law_971 rfl (lv_at hl 3 rfl) ?_
  refine lv_iconst (v := 1) hx hb dL_law_972 (by decide) ?_
  refine lv_iadd hx hb dL_law_973 ?_
  obtain ⟨hi5, hf⟩ := gi_e hf
  refine va_sld hx hb hX hbl hbA hS hi5 dL_law_974 ?_
  refine lv_aload_n hx hb dL_law_975 rfl (lv_at hl 0 rfl) ?_
  refine lv_iload_n hx hb dL_law_976 rfl (lv_at hl 3 rfl) ?_
  refine lv_iconst (v := 2) hx hb dL_law_977 (by decide) ?_
  refine lv_iadd hx hb dL_law_978 ?_
  obtain ⟨hi6, hf⟩ := gi_e hf
  refine va_sld hx hb hX hbl hbA hS hi6 dL_law_979 ?_
  refine lv_aload_n hx hb dL_law_980 rfl (lv_at hl 0 rfl) ?_
  refine lv_iload_n hx hb dL_law_981 rfl (lv_at hl 3 rfl) ?_
  refine lv_iconst (v := 3) hx hb dL_law_982 (by decide) ?_
  refine lv_iadd hx hb dL_law_983 ?_
  obtain ⟨hi7, hf⟩ := gi_e hf
  refine va_sld hx hb hX hbl hbA hS hi7 dL_law_984 ?_
  refine lv_aload_n hx hb dL_law_985 rfl (lv_at hl 0 rfl) ?_
  refine lv_iload_n hx hb dL_law_986 rfl (lv_at hl 3 rfl) ?_
  refine lv_iconst (v := 4) hx hb dL_law_987 (by decide) ?_
  refine lv_iadd hx hb dL_law_988 ?_
  obtain ⟨hi8, hf⟩ := gi_e hf
  refine va_sld hx hb hX hbl hbA hS hi8 dL_law_989 ?_
  obtain ⟨r990, hr990, hf⟩ := bn_e hf
  have hPc : va_P (dC, dI) vwCl (wM cs a M) _ := hP.r
  have hec : ((wM cs a M)).map Prod.fst = ([62, 63, 64, 65, 66, 67, 68, 69, 70, 71, 72, 73] : List Nat).map (adr g a) := rfl
  have hDc := vD_adr hJ [62, 63, 64, 65, 66, 67, 68, 69, 70, 71, 72, 73] (by decide) (by decide) hec
  have hFc := vF_adr hDc hS hA
  refine va_calli (va_runV (As := [.int ((xs ((x3 + (1 : Int32))).toNatClampNeg)), .int ((xs ((x3 + (2 : Int32))).toNatClampNeg)), .int ((xs ((x3 + (3 : Int32))).toNatClampNeg)), .int ((xs ((x3 + (4 : Int32))).toNatClampNeg))]) (rest := [.int (r966.1)]) C (c_X8_drawn l dC dI cs a H.size M (xs ((x3 + (1 : Int32))).toNatClampNeg) (xs ((x3 + (2 : Int32))).toNatClampNeg) (xs ((x3 + (3 : Int32))).toNatClampNeg) (xs ((x3 + (4 : Int32))).toNatClampNeg) r990 hr990) (cwV 4 hts gL_law_X8_drawn rfl rfl rfl (by decide +kernel) ⟨Nat.le_of_ble_eq_true rfl, Nat.le_of_ble_eq_true rfl⟩) ⟨(fun a U g mk q => ⟨q.1, q.2.1, q.2.2.1, GE.calling q.2.2.2.1, q.2.2.2.2⟩), va_recv hK hPc (ci := 8) (q0 := 0) rfl rfl, (fun U hU hW => ⟨rfl, by rw [hU], by rw [hU]; exact hPc, GE.warm hW G, hDc.weaken (fun _ _ _ _ => trivial)⟩)⟩ rfl rfl hl.1 rfl (lv_room (Nat.le_of_ble_eq_true rfl)) dL_law_990 ⟨Nat.le_of_ble_eq_true rfl, Nat.le_of_ble_eq_true rfl⟩) hS (fun q _ h => hFc q h) hFc (fun q u t H1 locs ht hvm hw hB hz1 hk1 hS => ?_)
  obtain ⟨rfl, rfl⟩ := hw
  obtain ⟨hP1, -⟩ := hB
  rw [ht] at hP1
  have hP : va_P (dC, dI) vwCl (wAll cs g a r966.2.1 N P I1 T1 P1 I2 T2 P2 X r966.2.2 L K r990.2) H1 := (((((((((((((((vP_keep hJ (hP.l.l.l.l.l.l.l.l.l.l.l.l.l.l) [0] [62, 63, 64, 65, 66, 67, 68, 69, 70, 71, 72, 73] rfl hec (by decide) (by decide) hk1)).app ((vP_keep hJ (hP.l.l.l.l.l.l.l.l.l.l.l.l.l.r) [1, 2, 3, 4, 5, 6, 7, 8, 9, 10, 11] [62, 63, 64, 65, 66, 67, 68, 69, 70, 71, 72, 73] rfl hec (by decide) (by decide) hk1))).app ((vP_keep hJ (hP.l.l.l.l.l.l.l.l.l.l.l.l.r) [12, 13] [62, 63, 64, 65, 66, 67, 68, 69, 70, 71, 72, 73] rfl hec (by decide) (by decide) hk1))).app ((vP_keep hJ (hP.l.l.l.l.l.l.l.l.l.l.l.r) [14] [62, 63, 64, 65, 66, 67, 68, 69, 70, 71, 72, 73] rfl hec (by decide) (by decide) hk1))).app ((vP_keep hJ (hP.l.l.l.l.l.l.l.l.l.l.r) [15, 16, 17, 18, 19, 20, 21, 22, 23, 24, 25] [62, 63, 64, 65, 66, 67, 68, 69, 70, 71, 72, 73] rfl hec (by decide) (by decide) hk1))).app ((vP_keep hJ (hP.l.l.l.l.l.l.l.l.l.r) [26, 27] [62, 63, 64, 65, 66, 67, 68, 69, 70, 71, 72, 73] rfl hec (by decide) (by decide) hk1))).app ((vP_keep hJ (hP.l.l.l.l.l.l.l.l.r) [28] [62, 63, 64, 65, 66, 67, 68, 69, 70, 71, 72, 73] rfl hec (by decide) (by decide) hk1))).app ((vP_keep hJ (hP.l.l.l.l.l.l.l.r) [29, 30, 31, 32, 33, 34, 35, 36, 37, 38, 39] [62, 63, 64, 65, 66, 67, 68, 69, 70, 71, 72, 73] rfl hec (by decide) (by decide) hk1))).app ((vP_keep hJ (hP.l.l.l.l.l.l.r) [40, 41] [62, 63, 64, 65, 66, 67, 68, 69, 70, 71, 72, 73] rfl hec (by decide) (by decide) hk1))).app ((vP_keep hJ (hP.l.l.l.l.l.r) [42, 43] [62, 63, 64, 65, 66, 67, 68, 69, 70, 71, 72, 73] rfl hec (by decide) (by decide) hk1))).app ((vP_keep hJ (hP.l.l.l.l.r) [44] [62, 63, 64, 65, 66, 67, 68, 69, 70, 71, 72, 73] rfl hec (by decide) (by decide) hk1))).app ((vP_keep hJ (hP.l.l.l.r) [45, 46, 47, 48, 49, 50, 51, 52, 53, 54, 55] [62, 63, 64, 65, 66, 67, 68, 69, 70, 71, 72, 73] rfl hec (by decide) (by decide) hk1))).app ((vP_keep hJ (hP.l.l.r) [56, 57, 58, 59] [62, 63, 64, 65, 66, 67, 68, 69, 70, 71, 72, 73] rfl hec (by decide) (by decide) hk1))).app ((vP_keep hJ (hP.l.r) [60, 61] [62, 63, 64, 65, 66, 67, 68, 69, 70, 71, 72, 73] rfl hec (by decide) (by decide) hk1))).app (hP1)
  generalize H1 = H at hP hS ⊢
  refine lv_icmp_eq (tgt := 1128) hx hb dL_law_993 (by decide) (fun c9 => ?_) (fun c9 => ?_)
  · replace hf := it_t c9 hf
    exact b_L_law_1128 C G hX hbl hbA hE hJ hA hR x3 r966.2.1 N P I1 T1 P1 I2 T2 P2 X r966.2.2 L K r990.2 hK18 _ _ _ (lv_sub hl [0, 1, 2, 3] rfl) hP hS hf
  · replace hf := it_f c9 hf
    refine lv_iconst (v := 0) hx hb dL_law_996 (by decide) ?_
    exact hR _ _ _ _ _ dL_law_997 hf hS
def f_L_law_998 (Ls : Nat) (xs : Nat → Int32) (x3 : Int32) (B : Nat → Int32) (N : Tw) (P : Ps) (I1 : Int32) (T1 : Tw) (P1 : Ps) (I2 : Int32) (T2 : Tw) (P2 : Ps) (X : Tx) (R : Tw) (L : Wl) (K : Ch) (M : Ms) (K18 : Int32 → (Nat → Int32) → Tw → Ps → Int32 → Tw → Ps → Int32 → Tw → Ps → Tx → Tw → Wl → Ch → Ms → Option Int32) : Option Int32 :=
  gi ((x3 + (1 : Int32))) Ls <|
  bn (f_X7_part (xs ((x3 + (1 : Int32))).toNatClampNeg) B K) fun r1004 =>
  gi ((x3 + (1 : Int32))) Ls <|
  bn (f_X8_part (xs ((x3 + (1 : Int32))).toNatClampNeg) M) fun r1013 =>
  if (lg_cmp r1004.1 r1013.1) = 0 then (
    f_L_law_1128 Ls xs x3 r1004.2 N P I1 T1 P1 I2 T2 P2 X R L K r1013.2 K18
  ) else (
    some (0 : Int32)
  )
set_option maxHeartbeats 4000000 in
set_option maxRecDepth 100000 in
theorem b_L_law_998 {p : Program} {l : Launch} {e : Env} {s : State} {m : MethodId} {args : Array Value} {below : List Frame} {meth : Method} {c : Code} {Q : State → Prop} {dC : Nat → ClassId} {dI : Nat → Nat → Nat} {cs : Nat → ClassId} {A : Nat → Prop} {g : Nat → Nat} {adK : Nat → Nat} {adV : Nat → Nat} {b : Nat} {a : Nat → Nat} {Ls : Nat} {xs : Nat → Int32} {res : Int32} (C : CallFix p m c cL_law 4 s args wsL_law RL) (G : GE dC dI cs s) (hX : va_X b Ls xs s s.heap) (hbl : b < s.heap.size) (hbA : ¬ A b) (hE : SE adK adV A s s.heap) (hJ : adI A (adr g a) 74) (hA : ∀ q : Nat, s.heap.size ≤ q → A q) (hR : RTw p l e s m args below meth c Q A res) (x3 : Int32) (B : Nat → Int32) (N : Tw) (P : Ps) (I1 : Int32) (T1 : Tw) (P1 : Ps) (I2 : Int32) (T2 : Tw) (P2 : Ps) (X : Tx) (R : Tw) (L : Wl) (K : Ch) (M : Ms) {K18 : Int32 → (Nat → Int32) → Tw → Ps → Int32 → Tw → Ps → Int32 → Tw → Ps → Tx → Tw → Wl → Ch → Ms → Option Int32} (hK18 : ∀ (x3 : Int32) (B : Nat → Int32) (N : Tw) (P : Ps) (I1 : Int32) (T1 : Tw) (P1 : Ps) (I2 : Int32) (T2 : Tw) (P2 : Ps) (X : Tx) (R : Tw) (L : Wl) (K : Ch) (M : Ms) (H : Heap) (locs : List Loc) (ls : Array Slot), lv_has ls 4 [(0, .ref b), (1, .ref (g 0)), (2, .ref (a 0)), (3, .int (x3))] → va_P (dC, dI) vwCl (wAll cs g a B N P I1 T1 P1 I2 T2 P2 X R L K M) H → va_S A s.heap H locs → K18 x3 B N P I1 T1 P1 I2 T2 P2 X R L K M = some res → W p l e room_1 s m args below meth c H locs 74 3434 Q (F0 m 18 ls [])) (H : Heap) (locs : List Loc) (ls : Array Slot) (hl : lv_has ls 4 [(0, .ref b), (1, .ref (g 0)), (2, .ref (a 0)), (3, .int (x3))]) (hP : va_P (dC, dI) vwCl (wAll cs g a B N P I1 T1 P1 I2 T2 P2 X R L K M) H) (hS : va_S A s.heap H locs) (hf : f_L_law_998 Ls xs x3 B N P I1 T1 P1 I2 T2 P2 X R L K M K18 = some res) : W p l e room_1 s m args below meth c H locs 74 3434 Q (F0 m 998 ls []) := by
  obtain ⟨hx, hb, hml, hown, hts⟩ := id C
  obtain ⟨hK, hN⟩ := id G
  unfold f_L_law_998 at hf
  refine lv_aload_n hx hb dL_law_998 rfl (lv_at hl 1 rfl) ?_
  refine lv_aload_n hx hb dL_law_999 rfl (lv_at hl 0 rfl) ?_
  refine lv_iload_n hx hb dL_law_1000 rfl (lv_at hl 3 rfl) ?_
  refine lv_iconst (v := 1) hx hb dL_law_1001 (by decide) ?_
  refine lv_iadd hx hb dL_law_1002 ?_
  obtain ⟨hi1, hf⟩ := gi_e hf
  refine va_sld hx hb hX hbl hbA hS hi1 dL_law_1003 ?_
  obtain ⟨r1004, hr1004, hf⟩ := bn_e hf
  have hPc : va_P (dC, dI) vwCl (wB g B ++ wC cs (fun i => g (60 + i)) K) _ := (hP.l.l.l.l.l.l.l.l.l.l.l.l.l.l).app (hP.l.r)
  have hec : ((wB g B ++ wC cs (fun i => g (60 + i)) K)).map Prod.fst = ([0, 60, 61] : List Nat).map (adr g a) := rfl
  have hDc := vD_adr hJ [0, 60, 61] (by decide) (by decide) hec
  have hFc := vF_adr hDc hS hA
  refine va_calll (va_runV (As := [.int ((xs ((x3 + (1 : Int32))).toNatClampNeg))]) (rest := []) C (c_X7_part l dC dI cs g H.size B K (xs ((x3 + (1 : Int32))).toNatClampNeg) r1004 hr1004) (cwV 1 hts gL_law_X7_part rfl rfl rfl (by decide +kernel) ⟨Nat.le_of_ble_eq_true rfl, Nat.le_of_ble_eq_true rfl⟩) ⟨(fun a U g mk q => ⟨q.1, q.2.1, q.2.2.1, GE.calling q.2.2.2.1, q.2.2.2.2⟩), va_recv hK hPc (ci := 7) (q0 := 0) rfl rfl, (fun U hU hW => ⟨rfl, by rw [hU], by rw [hU]; exact hPc, GE.warm hW G, hDc.weaken (fun _ _ _ _ => trivial)⟩)⟩ rfl rfl hl.1 rfl (lv_room (Nat.le_of_ble_eq_true rfl)) dL_law_1004 ⟨Nat.le_of_ble_eq_true rfl, Nat.le_of_ble_eq_true rfl⟩) hS (fun q _ h => hFc q h) hFc (fun q u t H1 locs ht hvm hw hB hz1 hk1 hS => ?_)
  obtain ⟨rfl, rfl⟩ := hw
  obtain ⟨hP1, -⟩ := hB
  rw [ht] at hP1
  have hP : va_P (dC, dI) vwCl (wAll cs g a r1004.2 N P I1 T1 P1 I2 T2 P2 X R L K M) H1 := ((((((((((((((hP1.l).app ((vP_keep hJ (hP.l.l.l.l.l.l.l.l.l.l.l.l.l.r) [1, 2, 3, 4, 5, 6, 7, 8, 9, 10, 11] [0, 60, 61] rfl hec (by decide) (by decide) hk1))).app ((vP_keep hJ (hP.l.l.l.l.l.l.l.l.l.l.l.l.r) [12, 13] [0, 60, 61] rfl hec (by decide) (by decide) hk1))).app ((vP_keep hJ (hP.l.l.l.l.l.l.l.l.l.l.l.r) [14] [0, 60, 61] rfl hec (by decide) (by decide) hk1))).app ((vP_keep hJ (hP.l.l.l.l.l.l.l.l.l.l.r) [15, 16, 17, 18, 19, 20, 21, 22, 23, 24, 25] [0, 60, 61] rfl hec (by decide) (by decide) hk1))).app ((vP_keep hJ (hP.l.l.l.l.l.l.l.l.l.r) [26, 27] [0, 60, 61] rfl hec (by decide) (by decide) hk1))).app ((vP_keep hJ (hP.l.l.l.l.l.l.l.l.r) [28] [0, 60, 61] rfl hec (by decide) (by decide) hk1))).app ((vP_keep hJ (hP.l.l.l.l.l.l.l.r) [29, 30, 31, 32, 33, 34, 35, 36, 37, 38, 39] [0, 60, 61] rfl hec (by decide) (by decide) hk1))).app ((vP_keep hJ (hP.l.l.l.l.l.l.r) [40, 41] [0, 60, 61] rfl hec (by decide) (by decide) hk1))).app ((vP_keep hJ (hP.l.l.l.l.l.r) [42, 43] [0, 60, 61] rfl hec (by decide) (by decide) hk1))).app ((vP_keep hJ (hP.l.l.l.l.r) [44] [0, 60, 61] rfl hec (by decide) (by decide) hk1))).app ((vP_keep hJ (hP.l.l.l.r) [45, 46, 47, 48, 49, 50, 51, 52, 53, 54, 55] [0, 60, 61] rfl hec (by decide) (by decide) hk1))).app ((vP_keep hJ (hP.l.l.r) [56, 57, 58, 59] [0, 60, 61] rfl hec (by decide) (by decide) hk1))).app (hP1.r)).app ((vP_keep hJ (hP.r) [62, 63, 64, 65, 66, 67, 68, 69, 70, 71, 72, 73] [0, 60, 61] rfl hec (by decide) (by decide) hk1))
  generalize H1 = H at hP hS ⊢
  refine lv_aload_n hx hb dL_law_1007 rfl (lv_at hl 2 rfl) ?_
  refine lv_aload_n hx hb dL_law_1008 rfl (lv_at hl 0 rfl) ?_
  refine lv_iload_n hx hb dL_law_1009 rfl (lv_at hl 3 rfl) ?_
  refine lv_iconst (v := 1) hx hb dL_law_1010 (by decide) ?_
  refine lv_iadd hx hb dL_law_1011 ?_
  obtain ⟨hi2, hf⟩ := gi_e hf
  refine va_sld hx hb hX hbl hbA hS hi2 dL_law_1012 ?_
  obtain ⟨r1013, hr1013, hf⟩ := bn_e hf
  have hPc : va_P (dC, dI) vwCl (wM cs a M) _ := hP.r
  have hec : ((wM cs a M)).map Prod.fst = ([62, 63, 64, 65, 66, 67, 68, 69, 70, 71, 72, 73] : List Nat).map (adr g a) := rfl
  have hDc := vD_adr hJ [62, 63, 64, 65, 66, 67, 68, 69, 70, 71, 72, 73] (by decide) (by decide) hec
  have hFc := vF_adr hDc hS hA
  refine va_calll (va_runV (As := [.int ((xs ((x3 + (1 : Int32))).toNatClampNeg))]) (rest := [.long (r1004.1)]) C (c_X8_part l dC dI cs a H.size M (xs ((x3 + (1 : Int32))).toNatClampNeg) r1013 hr1013) (cwV 1 hts gL_law_X8_part rfl rfl rfl (by decide +kernel) ⟨Nat.le_of_ble_eq_true rfl, Nat.le_of_ble_eq_true rfl⟩) ⟨(fun a U g mk q => ⟨q.1, q.2.1, q.2.2.1, GE.calling q.2.2.2.1, q.2.2.2.2⟩), va_recv hK hPc (ci := 8) (q0 := 0) rfl rfl, (fun U hU hW => ⟨rfl, by rw [hU], by rw [hU]; exact hPc, GE.warm hW G, hDc.weaken (fun _ _ _ _ => trivial)⟩)⟩ rfl rfl hl.1 rfl (lv_room (Nat.le_of_ble_eq_true rfl)) dL_law_1013 ⟨Nat.le_of_ble_eq_true rfl, Nat.le_of_ble_eq_true rfl⟩) hS (fun q _ h => hFc q h) hFc (fun q u t H1 locs ht hvm hw hB hz1 hk1 hS => ?_)
  obtain ⟨rfl, rfl⟩ := hw
  obtain ⟨hP1, -⟩ := hB
  rw [ht] at hP1
  have hP : va_P (dC, dI) vwCl (wAll cs g a r1004.2 N P I1 T1 P1 I2 T2 P2 X R L K r1013.2) H1 := (((((((((((((((vP_keep hJ (hP.l.l.l.l.l.l.l.l.l.l.l.l.l.l) [0] [62, 63, 64, 65, 66, 67, 68, 69, 70, 71, 72, 73] rfl hec (by decide) (by decide) hk1)).app ((vP_keep hJ (hP.l.l.l.l.l.l.l.l.l.l.l.l.l.r) [1, 2, 3, 4, 5, 6, 7, 8, 9, 10, 11] [62, 63, 64, 65, 66, 67, 68, 69, 70, 71, 72, 73] rfl hec (by decide) (by decide) hk1))).app ((vP_keep hJ (hP.l.l.l.l.l.l.l.l.l.l.l.l.r) [12, 13] [62, 63, 64, 65, 66, 67, 68, 69, 70, 71, 72, 73] rfl hec (by decide) (by decide) hk1))).app ((vP_keep hJ (hP.l.l.l.l.l.l.l.l.l.l.l.r) [14] [62, 63, 64, 65, 66, 67, 68, 69, 70, 71, 72, 73] rfl hec (by decide) (by decide) hk1))).app ((vP_keep hJ (hP.l.l.l.l.l.l.l.l.l.l.r) [15, 16, 17, 18, 19, 20, 21, 22, 23, 24, 25] [62, 63, 64, 65, 66, 67, 68, 69, 70, 71, 72, 73] rfl hec (by decide) (by decide) hk1))).app ((vP_keep hJ (hP.l.l.l.l.l.l.l.l.l.r) [26, 27] [62, 63, 64, 65, 66, 67, 68, 69, 70, 71, 72, 73] rfl hec (by decide) (by decide) hk1))).app ((vP_keep hJ (hP.l.l.l.l.l.l.l.l.r) [28] [62, 63, 64, 65, 66, 67, 68, 69, 70, 71, 72, 73] rfl hec (by decide) (by decide) hk1))).app ((vP_keep hJ (hP.l.l.l.l.l.l.l.r) [29, 30, 31, 32, 33, 34, 35, 36, 37, 38, 39] [62, 63, 64, 65, 66, 67, 68, 69, 70, 71, 72, 73] rfl hec (by decide) (by decide) hk1))).app ((vP_keep hJ (hP.l.l.l.l.l.l.r) [40, 41] [62, 63, 64, 65, 66, 67, 68, 69, 70, 71, 72, 73] rfl hec (by decide) (by decide) hk1))).app ((vP_keep hJ (hP.l.l.l.l.l.r) [42, 43] [62, 63, 64, 65, 66, 67, 68, 69, 70, 71, 72, 73] rfl hec (by decide) (by decide) hk1))).app ((vP_keep hJ (hP.l.l.l.l.r) [44] [62, 63, 64, 65, 66, 67, 68, 69, 70, 71, 72, 73] rfl hec (by decide) (by decide) hk1))).app ((vP_keep hJ (hP.l.l.l.r) [45, 46, 47, 48, 49, 50, 51, 52, 53, 54, 55] [62, 63, 64, 65, 66, 67, 68, 69, 70, 71, 72, 73] rfl hec (by decide) (by decide) hk1))).app ((vP_keep hJ (hP.l.l.r) [56, 57, 58, 59] [62, 63, 64, 65, 66, 67, 68, 69, 70, 71, 72, 73] rfl hec (by decide) (by decide) hk1))).app ((vP_keep hJ (hP.l.r) [60, 61] [62, 63, 64, 65, 66, 67, 68, 69, 70, 71, 72, 73] rfl hec (by decide) (by decide) hk1))).app (hP1)
  generalize H1 = H at hP hS ⊢
  refine W.lcmp hx hb dL_law_1016 ?_
  refine lv_if_eq (tgt := 1128) hx hb dL_law_1017 (by decide) (fun c3 => ?_) (fun c3 => ?_)
  · replace hf := it_t c3 hf
    exact b_L_law_1128 C G hX hbl hbA hE hJ hA hR x3 r1004.2 N P I1 T1 P1 I2 T2 P2 X R L K r1013.2 hK18 _ _ _ (lv_sub hl [0, 1, 2, 3] rfl) hP hS hf
  · replace hf := it_f c3 hf
    refine lv_iconst (v := 0) hx hb dL_law_1020 (by decide) ?_
    exact hR _ _ _ _ _ dL_law_1021 hf hS
def f_L_law_1022 (Ls : Nat) (xs : Nat → Int32) (x3 : Int32) (B : Nat → Int32) (N : Tw) (P : Ps) (I1 : Int32) (T1 : Tw) (P1 : Ps) (I2 : Int32) (T2 : Tw) (P2 : Ps) (X : Tx) (R : Tw) (L : Wl) (K : Ch) (M : Ms) (K18 : Int32 → (Nat → Int32) → Tw → Ps → Int32 → Tw → Ps → Int32 → Tw → Ps → Tx → Tw → Wl → Ch → Ms → Option Int32) : Option Int32 :=
  gi ((x3 + (1 : Int32))) Ls <|
  bn (f_X7_image (xs ((x3 + (1 : Int32))).toNatClampNeg) B N P I1 T1 P1 I2 T2 P2) fun r1028 =>
  gi ((x3 + (1 : Int32))) Ls <|
  bn (f_X8_image (xs ((x3 + (1 : Int32))).toNatClampNeg) M) fun r1037 =>
  if r1028.1 = r1037.1 then (
    f_L_law_1128 Ls xs x3 r1028.2.1 N P r1028.2.2.1 r1028.2.2.2.1 r1028.2.2.2.2.1 r1028.2.2.2.2.2.1 r1028.2.2.2.2.2.2.1 r1028.2.2.2.2.2.2.2 X R L K r1037.2 K18
  ) else (
    some (0 : Int32)
  )
set_option maxHeartbeats 4000000 in
set_option maxRecDepth 100000 in
theorem b_L_law_1022 {p : Program} {l : Launch} {e : Env} {s : State} {m : MethodId} {args : Array Value} {below : List Frame} {meth : Method} {c : Code} {Q : State → Prop} {dC : Nat → ClassId} {dI : Nat → Nat → Nat} {cs : Nat → ClassId} {A : Nat → Prop} {g : Nat → Nat} {adK : Nat → Nat} {adV : Nat → Nat} {b : Nat} {a : Nat → Nat} {Ls : Nat} {xs : Nat → Int32} {res : Int32} (C : CallFix p m c cL_law 4 s args wsL_law RL) (G : GE dC dI cs s) (hX : va_X b Ls xs s s.heap) (hbl : b < s.heap.size) (hbA : ¬ A b) (hE : SE adK adV A s s.heap) (hJ : adI A (adr g a) 74) (hA : ∀ q : Nat, s.heap.size ≤ q → A q) (hR : RTw p l e s m args below meth c Q A res) (x3 : Int32) (B : Nat → Int32) (N : Tw) (P : Ps) (I1 : Int32) (T1 : Tw) (P1 : Ps) (I2 : Int32) (T2 : Tw) (P2 : Ps) (X : Tx) (R : Tw) (L : Wl) (K : Ch) (M : Ms) {K18 : Int32 → (Nat → Int32) → Tw → Ps → Int32 → Tw → Ps → Int32 → Tw → Ps → Tx → Tw → Wl → Ch → Ms → Option Int32} (hK18 : ∀ (x3 : Int32) (B : Nat → Int32) (N : Tw) (P : Ps) (I1 : Int32) (T1 : Tw) (P1 : Ps) (I2 : Int32) (T2 : Tw) (P2 : Ps) (X : Tx) (R : Tw) (L : Wl) (K : Ch) (M : Ms) (H : Heap) (locs : List Loc) (ls : Array Slot), lv_has ls 4 [(0, .ref b), (1, .ref (g 0)), (2, .ref (a 0)), (3, .int (x3))] → va_P (dC, dI) vwCl (wAll cs g a B N P I1 T1 P1 I2 T2 P2 X R L K M) H → va_S A s.heap H locs → K18 x3 B N P I1 T1 P1 I2 T2 P2 X R L K M = some res → W p l e room_1 s m args below meth c H locs 74 3434 Q (F0 m 18 ls [])) (H : Heap) (locs : List Loc) (ls : Array Slot) (hl : lv_has ls 4 [(0, .ref b), (1, .ref (g 0)), (2, .ref (a 0)), (3, .int (x3))]) (hP : va_P (dC, dI) vwCl (wAll cs g a B N P I1 T1 P1 I2 T2 P2 X R L K M) H) (hS : va_S A s.heap H locs) (hf : f_L_law_1022 Ls xs x3 B N P I1 T1 P1 I2 T2 P2 X R L K M K18 = some res) : W p l e room_1 s m args below meth c H locs 74 3434 Q (F0 m 1022 ls []) := by
  obtain ⟨hx, hb, hml, hown, hts⟩ := id C
  obtain ⟨hK, hN⟩ := id G
  unfold f_L_law_1022 at hf
  refine lv_aload_n hx hb dL_law_1022 rfl (lv_at hl 1 rfl) ?_
  refine lv_aload_n hx hb dL_law_1023 rfl (lv_at hl 0 rfl) ?_
  refine lv_iload_n hx hb dL_law_1024 rfl (lv_at hl 3 rfl) ?_
  refine lv_iconst (v := 1) hx hb dL_law_1025 (by decide) ?_
  refine lv_iadd hx hb dL_law_1026 ?_
  obtain ⟨hi1, hf⟩ := gi_e hf
  refine va_sld hx hb hX hbl hbA hS hi1 dL_law_1027 ?_
  obtain ⟨r1028, hr1028, hf⟩ := bn_e hf
  have hPc : va_P (dC, dI) vwCl (wB g B ++ wT cs (fun i => g (1 + i)) N ++ wP cs (fun i => g (12 + i)) P ++ wI (g 14) (g 15) (g 26) I1 ++ wT cs (fun i => g (15 + i)) T1 ++ wP cs (fun i => g (26 + i)) P1 ++ wI (g 28) (g 29) (g 40) I2 ++ wT cs (fun i => g (29 + i)) T2 ++ wP cs (fun i => g (40 + i)) P2) _ := ((((((((hP.l.l.l.l.l.l.l.l.l.l.l.l.l.l).app (hP.l.l.l.l.l.l.l.l.l.l.l.l.l.r)).app (hP.l.l.l.l.l.l.l.l.l.l.l.l.r)).app (hP.l.l.l.l.l.l.l.l.l.l.l.r)).app (hP.l.l.l.l.l.l.l.l.l.l.r)).app (hP.l.l.l.l.l.l.l.l.l.r)).app (hP.l.l.l.l.l.l.l.l.r)).app (hP.l.l.l.l.l.l.l.r)).app (hP.l.l.l.l.l.l.r)
  have hec : ((wB g B ++ wT cs (fun i => g (1 + i)) N ++ wP cs (fun i => g (12 + i)) P ++ wI (g 14) (g 15) (g 26) I1 ++ wT cs (fun i => g (15 + i)) T1 ++ wP cs (fun i => g (26 + i)) P1 ++ wI (g 28) (g 29) (g 40) I2 ++ wT cs (fun i => g (29 + i)) T2 ++ wP cs (fun i => g (40 + i)) P2)).map Prod.fst = ([0, 1, 2, 3, 4, 5, 6, 7, 8, 9, 10, 11, 12, 13, 14, 15, 16, 17, 18, 19, 20, 21, 22, 23, 24, 25, 26, 27, 28, 29, 30, 31, 32, 33, 34, 35, 36, 37, 38, 39, 40, 41] : List Nat).map (adr g a) := rfl
  have hDc := vD_adr hJ [0, 1, 2, 3, 4, 5, 6, 7, 8, 9, 10, 11, 12, 13, 14, 15, 16, 17, 18, 19, 20, 21, 22, 23, 24, 25, 26, 27, 28, 29, 30, 31, 32, 33, 34, 35, 36, 37, 38, 39, 40, 41] (by decide) (by decide) hec
  have hFc := vF_adr hDc hS hA
  refine va_calli (va_runV (As := [.int ((xs ((x3 + (1 : Int32))).toNatClampNeg))]) (rest := []) C (c_X7_image l dC dI cs g H.size B N P I1 T1 P1 I2 T2 P2 (xs ((x3 + (1 : Int32))).toNatClampNeg) r1028 hr1028) (cwV 1 hts gL_law_X7_image rfl rfl rfl (by decide +kernel) ⟨Nat.le_of_ble_eq_true rfl, Nat.le_of_ble_eq_true rfl⟩) ⟨(fun a U g mk q => ⟨q.1, q.2.1, q.2.2.1, GE.calling q.2.2.2.1, q.2.2.2.2⟩), va_recv hK hPc (ci := 7) (q0 := 0) rfl rfl, (fun U hU hW => ⟨rfl, by rw [hU], by rw [hU]; exact hPc, GE.warm hW G, hDc.weaken (fun _ _ _ _ => trivial)⟩)⟩ rfl rfl hl.1 rfl (lv_room (Nat.le_of_ble_eq_true rfl)) dL_law_1028 ⟨Nat.le_of_ble_eq_true rfl, Nat.le_of_ble_eq_true rfl⟩) hS (fun q _ h => hFc q h) hFc (fun q u t H1 locs ht hvm hw hB hz1 hk1 hS => ?_)
  obtain ⟨rfl, rfl⟩ := hw
  obtain ⟨hP1, -⟩ := hB
  rw [ht] at hP1
  have hP : va_P (dC, dI) vwCl (wAll cs g a r1028.2.1 N P r1028.2.2.1 r1028.2.2.2.1 r1028.2.2.2.2.1 r1028.2.2.2.2.2.1 r1028.2.2.2.2.2.2.1 r1028.2.2.2.2.2.2.2 X R L K M) H1 := ((((((((((((((hP1.l.l.l.l.l.l.l.l).app (hP1.l.l.l.l.l.l.l.r)).app (hP1.l.l.l.l.l.l.r)).app (hP1.l.l.l.l.l.r)).app (hP1.l.l.l.l.r)).app (hP1.l.l.l.r)).app (hP1.l.l.r)).app (hP1.l.r)).app (hP1.r)).app ((vP_keep hJ (hP.l.l.l.l.l.r) [42, 43] [0, 1, 2, 3, 4, 5, 6, 7, 8, 9, 10, 11, 12, 13, 14, 15, 16, 17, 18, 19, 20, 21, 22, 23, 24, 25, 26, 27, 28, 29, 30, 31, 32, 33, 34, 35, 36, 37, 38, 39, 40, 41] rfl hec (by decide) (by decide) hk1))).app ((vP_keep hJ (hP.l.l.l.l.r) [44] [0, 1, 2, 3, 4, 5, 6, 7, 8, 9, 10, 11, 12, 13, 14, 15, 16, 17, 18, 19, 20, 21, 22, 23, 24, 25, 26, 27, 28, 29, 30, 31, 32, 33, 34, 35, 36, 37, 38, 39, 40, 41] rfl hec (by decide) (by decide) hk1))).app ((vP_keep hJ (hP.l.l.l.r) [45, 46, 47, 48, 49, 50, 51, 52, 53, 54, 55] [0, 1, 2, 3, 4, 5, 6, 7, 8, 9, 10, 11, 12, 13, 14, 15, 16, 17, 18, 19, 20, 21, 22, 23, 24, 25, 26, 27, 28, 29, 30, 31, 32, 33, 34, 35, 36, 37, 38, 39, 40, 41] rfl hec (by decide) (by decide) hk1))).app ((vP_keep hJ (hP.l.l.r) [56, 57, 58, 59] [0, 1, 2, 3, 4, 5, 6, 7, 8, 9, 10, 11, 12, 13, 14, 15, 16, 17, 18, 19, 20, 21, 22, 23, 24, 25, 26, 27, 28, 29, 30, 31, 32, 33, 34, 35, 36, 37, 38, 39, 40, 41] rfl hec (by decide) (by decide) hk1))).app ((vP_keep hJ (hP.l.r) [60, 61] [0, 1, 2, 3, 4, 5, 6, 7, 8, 9, 10, 11, 12, 13, 14, 15, 16, 17, 18, 19, 20, 21, 22, 23, 24, 25, 26, 27, 28, 29, 30, 31, 32, 33, 34, 35, 36, 37, 38, 39, 40, 41] rfl hec (by decide) (by decide) hk1))).app ((vP_keep hJ (hP.r) [62, 63, 64, 65, 66, 67, 68, 69, 70, 71, 72, 73] [0, 1, 2, 3, 4, 5, 6, 7, 8, 9, 10, 11, 12, 13, 14, 15, 16, 17, 18, 19, 20, 21, 22, 23, 24, 25, 26, 27, 28, 29, 30, 31, 32, 33, 34, 35, 36, 37, 38, 39, 40, 41] rfl hec (by decide) (by decide) hk1))
  generalize H1 = H at hP hS ⊢
  refine lv_aload_n hx hb dL_law_1031 rfl (lv_at hl 2 rfl) ?_
  refine lv_aload_n hx hb dL_law_1032 rfl (lv_at hl 0 rfl) ?_
  refine lv_iload_n hx hb dL_law_1033 rfl (lv_at hl 3 rfl) ?_
  refine lv_iconst (v := 1) hx hb dL_law_1034 (by decide) ?_
  refine lv_iadd hx hb dL_law_1035 ?_
  obtain ⟨hi2, hf⟩ := gi_e hf
  refine va_sld hx hb hX hbl hbA hS hi2 dL_law_1036 ?_
  obtain ⟨r1037, hr1037, hf⟩ := bn_e hf
  have hPc : va_P (dC, dI) vwCl (wM cs a M) _ := hP.r
  have hec : ((wM cs a M)).map Prod.fst = ([62, 63, 64, 65, 66, 67, 68, 69, 70, 71, 72, 73] : List Nat).map (adr g a) := rfl
  have hDc := vD_adr hJ [62, 63, 64, 65, 66, 67, 68, 69, 70, 71, 72, 73] (by decide) (by decide) hec
  have hFc := vF_adr hDc hS hA
  refine va_calli (va_runV (As := [.int ((xs ((x3 + (1 : Int32))).toNatClampNeg))]) (rest := [.int (r1028.1)]) C (c_X8_image l dC dI cs a H.size M (xs ((x3 + (1 : Int32))).toNatClampNeg) r1037 hr1037) (cwV 1 hts gL_law_X8_image rfl rfl rfl (by decide +kernel) ⟨Nat.le_of_ble_eq_true rfl, Nat.le_of_ble_eq_true rfl⟩) ⟨(fun a U g mk q => ⟨q.1, q.2.1, q.2.2.1, GE.calling q.2.2.2.1, q.2.2.2.2⟩), va_recv hK hPc (ci := 8) (q0 := 0) rfl rfl, (fun U hU hW => ⟨rfl, by rw [hU], by rw [hU]; exact hPc, GE.warm hW G, hDc.weaken (fun _ _ _ _ => trivial)⟩)⟩ rfl rfl hl.1 rfl (lv_room (Nat.le_of_ble_eq_true rfl)) dL_law_1037 ⟨Nat.le_of_ble_eq_true rfl, Nat.le_of_ble_eq_true rfl⟩) hS (fun q _ h => hFc q h) hFc (fun q u t H1 locs ht hvm hw hB hz1 hk1 hS => ?_)
  obtain ⟨rfl, rfl⟩ := hw
  obtain ⟨hP1, -⟩ := hB
  rw [ht] at hP1
  have hP : va_P (dC, dI) vwCl (wAll cs g a r1028.2.1 N P r1028.2.2.1 r1028.2.2.2.1 r1028.2.2.2.2.1 r1028.2.2.2.2.2.1 r1028.2.2.2.2.2.2.1 r1028.2.2.2.2.2.2.2 X R L K r1037.2) H1 := (((((((((((((((vP_keep hJ (hP.l.l.l.l.l.l.l.l.l.l.l.l.l.l) [0] [62, 63, 64, 65, 66, 67, 68, 69, 70, 71, 72, 73] rfl hec (by decide) (by decide) hk1)).app ((vP_keep hJ (hP.l.l.l.l.l.l.l.l.l.l.l.l.l.r) [1, 2, 3, 4, 5, 6, 7, 8, 9, 10, 11] [62, 63, 64, 65, 66, 67, 68, 69, 70, 71, 72, 73] rfl hec (by decide) (by decide) hk1))).app ((vP_keep hJ (hP.l.l.l.l.l.l.l.l.l.l.l.l.r) [12, 13] [62, 63, 64, 65, 66, 67, 68, 69, 70, 71, 72, 73] rfl hec (by decide) (by decide) hk1))).app ((vP_keep hJ (hP.l.l.l.l.l.l.l.l.l.l.l.r) [14] [62, 63, 64, 65, 66, 67, 68, 69, 70, 71, 72, 73] rfl hec (by decide) (by decide) hk1))).app ((vP_keep hJ (hP.l.l.l.l.l.l.l.l.l.l.r) [15, 16, 17, 18, 19, 20, 21, 22, 23, 24, 25] [62, 63, 64, 65, 66, 67, 68, 69, 70, 71, 72, 73] rfl hec (by decide) (by decide) hk1))).app ((vP_keep hJ (hP.l.l.l.l.l.l.l.l.l.r) [26, 27] [62, 63, 64, 65, 66, 67, 68, 69, 70, 71, 72, 73] rfl hec (by decide) (by decide) hk1))).app ((vP_keep hJ (hP.l.l.l.l.l.l.l.l.r) [28] [62, 63, 64, 65, 66, 67, 68, 69, 70, 71, 72, 73] rfl hec (by decide) (by decide) hk1))).app ((vP_keep hJ (hP.l.l.l.l.l.l.l.r) [29, 30, 31, 32, 33, 34, 35, 36, 37, 38, 39] [62, 63, 64, 65, 66, 67, 68, 69, 70, 71, 72, 73] rfl hec (by decide) (by decide) hk1))).app ((vP_keep hJ (hP.l.l.l.l.l.l.r) [40, 41] [62, 63, 64, 65, 66, 67, 68, 69, 70, 71, 72, 73] rfl hec (by decide) (by decide) hk1))).app ((vP_keep hJ (hP.l.l.l.l.l.r) [42, 43] [62, 63, 64, 65, 66, 67, 68, 69, 70, 71, 72, 73] rfl hec (by decide) (by decide) hk1))).app ((vP_keep hJ (hP.l.l.l.l.r) [44] [62, 63, 64, 65, 66, 67, 68, 69, 70, 71, 72, 73] rfl hec (by decide) (by decide) hk1))).app ((vP_keep hJ (hP.l.l.l.r) [45, 46, 47, 48, 49, 50, 51, 52, 53, 54, 55] [62, 63, 64, 65, 66, 67, 68, 69, 70, 71, 72, 73] rfl hec (by decide) (by decide) hk1))).app ((vP_keep hJ (hP.l.l.r) [56, 57, 58, 59] [62, 63, 64, 65, 66, 67, 68, 69, 70, 71, 72, 73] rfl hec (by decide) (by decide) hk1))).app ((vP_keep hJ (hP.l.r) [60, 61] [62, 63, 64, 65, 66, 67, 68, 69, 70, 71, 72, 73] rfl hec (by decide) (by decide) hk1))).app (hP1)
  generalize H1 = H at hP hS ⊢
  refine lv_icmp_eq (tgt := 1128) hx hb dL_law_1040 (by decide) (fun c3 => ?_) (fun c3 => ?_)
  · replace hf := it_t c3 hf
    exact b_L_law_1128 C G hX hbl hbA hE hJ hA hR x3 r1028.2.1 N P r1028.2.2.1 r1028.2.2.2.1 r1028.2.2.2.2.1 r1028.2.2.2.2.2.1 r1028.2.2.2.2.2.2.1 r1028.2.2.2.2.2.2.2 X R L K r1037.2 hK18 _ _ _ (lv_sub hl [0, 1, 2, 3] rfl) hP hS hf
  · replace hf := it_f c3 hf
    refine lv_iconst (v := 0) hx hb dL_law_1043 (by decide) ?_
    exact hR _ _ _ _ _ dL_law_1044 hf hS
def f_L_law_1045 (Ls : Nat) (xs : Nat → Int32) (x3 : Int32) (B : Nat → Int32) (N : Tw) (P : Ps) (I1 : Int32) (T1 : Tw) (P1 : Ps) (I2 : Int32) (T2 : Tw) (P2 : Ps) (X : Tx) (R : Tw) (L : Wl) (K : Ch) (M : Ms) (K18 : Int32 → (Nat → Int32) → Tw → Ps → Int32 → Tw → Ps → Int32 → Tw → Ps → Tx → Tw → Wl → Ch → Ms → Option Int32) : Option Int32 :=
  gi ((x3 + (1 : Int32))) Ls <|
  bn (f_X7_from (xs ((x3 + (1 : Int32))).toNatClampNeg) B N P I1 T1 P1 I2 T2 P2) fun r1051 =>
  gi ((x3 + (1 : Int32))) Ls <|
  bn (f_X8_from (xs ((x3 + (1 : Int32))).toNatClampNeg) M) fun r1060 =>
  if r1051.1 = r1060.1 then (
    f_L_law_1128 Ls xs x3 r1051.2.1 r1051.2.2.1 r1051.2.2.2 I1 T1 P1 I2 T2 P2 X R L K r1060.2 K18
  ) else (
    some (0 : Int32)
  )
set_option maxHeartbeats 4000000 in
set_option maxRecDepth 100000 in
theorem b_L_law_1045 {p : Program} {l : Launch} {e : Env} {s : State} {m : MethodId} {args : Array Value} {below : List Frame} {meth : Method} {c : Code} {Q : State → Prop} {dC : Nat → ClassId} {dI : Nat → Nat → Nat} {cs : Nat → ClassId} {A : Nat → Prop} {g : Nat → Nat} {adK : Nat → Nat} {adV : Nat → Nat} {b : Nat} {a : Nat → Nat} {Ls : Nat} {xs : Nat → Int32} {res : Int32} (C : CallFix p m c cL_law 4 s args wsL_law RL) (G : GE dC dI cs s) (hX : va_X b Ls xs s s.heap) (hbl : b < s.heap.size) (hbA : ¬ A b) (hE : SE adK adV A s s.heap) (hJ : adI A (adr g a) 74) (hA : ∀ q : Nat, s.heap.size ≤ q → A q) (hR : RTw p l e s m args below meth c Q A res) (x3 : Int32) (B : Nat → Int32) (N : Tw) (P : Ps) (I1 : Int32) (T1 : Tw) (P1 : Ps) (I2 : Int32) (T2 : Tw) (P2 : Ps) (X : Tx) (R : Tw) (L : Wl) (K : Ch) (M : Ms) {K18 : Int32 → (Nat → Int32) → Tw → Ps → Int32 → Tw → Ps → Int32 → Tw → Ps → Tx → Tw → Wl → Ch → Ms → Option Int32} (hK18 : ∀ (x3 : Int32) (B : Nat → Int32) (N : Tw) (P : Ps) (I1 : Int32) (T1 : Tw) (P1 : Ps) (I2 : Int32) (T2 : Tw) (P2 : Ps) (X : Tx) (R : Tw) (L : Wl) (K : Ch) (M : Ms) (H : Heap) (locs : List Loc) (ls : Array Slot), lv_has ls 4 [(0, .ref b), (1, .ref (g 0)), (2, .ref (a 0)), (3, .int (x3))] → va_P (dC, dI) vwCl (wAll cs g a B N P I1 T1 P1 I2 T2 P2 X R L K M) H → va_S A s.heap H locs → K18 x3 B N P I1 T1 P1 I2 T2 P2 X R L K M = some res → W p l e room_1 s m args below meth c H locs 74 3434 Q (F0 m 18 ls [])) (H : Heap) (locs : List Loc) (ls : Array Slot) (hl : lv_has ls 4 [(0, .ref b), (1, .ref (g 0)), (2, .ref (a 0)), (3, .int (x3))]) (hP : va_P (dC, dI) vwCl (wAll cs g a B N P I1 T1 P1 I2 T2 P2 X R L K M) H) (hS : va_S A s.heap H locs) (hf : f_L_law_1045 Ls xs x3 B N P I1 T1 P1 I2 T2 P2 X R L K M K18 = some res) : W p l e room_1 s m args below meth c H locs 74 3434 Q (F0 m 1045 ls []) := by
  obtain ⟨hx, hb, hml, hown, hts⟩ := id C
  obtain ⟨hK, hN⟩ := id G
  unfold f_L_law_1045 at hf
  refine lv_aload_n hx hb dL_law_1045 rfl (lv_at hl 1 rfl) ?_
  refine lv_aload_n hx hb dL_law_1046 rfl (lv_at hl 0 rfl) ?_
  refine lv_iload_n hx hb dL_law_1047 rfl (lv_at hl 3 rfl) ?_
  refine lv_iconst (v := 1) hx hb dL_law_1048 (by decide) ?_
  refine lv_iadd hx hb dL_law_1049 ?_
  obtain ⟨hi1, hf⟩ := gi_e hf
  refine va_sld hx hb hX hbl hbA hS hi1 dL_law_1050 ?_
  obtain ⟨r1051, hr1051, hf⟩ := bn_e hf
  have hPc : va_P (dC, dI) vwCl (wB g B ++ wT cs (fun i => g (1 + i)) N ++ wP cs (fun i => g (12 + i)) P ++ wI (g 14) (g 15) (g 26) I1 ++ wT cs (fun i => g (15 + i)) T1 ++ wP cs (fun i => g (26 + i)) P1 ++ wI (g 28) (g 29) (g 40) I2 ++ wT cs (fun i => g (29 + i)) T2 ++ wP cs (fun i => g (40 + i)) P2) _ := ((((((((hP.l.l.l.l.l.l.l.l.l.l.l.l.l.l).app (hP.l.l.l.l.l.l.l.l.l.l.l.l.l.r)).app (hP.l.l.l.l.l.l.l.l.l.l.l.l.r)).app (hP.l.l.l.l.l.l.l.l.l.l.l.r)).app (hP.l.l.l.l.l.l.l.l.l.l.r)).app (hP.l.l.l.l.l.l.l.l.l.r)).app (hP.l.l.l.l.l.l.l.l.r)).app (hP.l.l.l.l.l.l.l.r)).app (hP.l.l.l.l.l.l.r)
  have hec : ((wB g B ++ wT cs (fun i => g (1 + i)) N ++ wP cs (fun i => g (12 + i)) P ++ wI (g 14) (g 15) (g 26) I1 ++ wT cs (fun i => g (15 + i)) T1 ++ wP cs (fun i => g (26 + i)) P1 ++ wI (g 28) (g 29) (g 40) I2 ++ wT cs (fun i => g (29 + i)) T2 ++ wP cs (fun i => g (40 + i)) P2)).map Prod.fst = ([0, 1, 2, 3, 4, 5, 6, 7, 8, 9, 10, 11, 12, 13, 14, 15, 16, 17, 18, 19, 20, 21, 22, 23, 24, 25, 26, 27, 28, 29, 30, 31, 32, 33, 34, 35, 36, 37, 38, 39, 40, 41] : List Nat).map (adr g a) := rfl
  have hDc := vD_adr hJ [0, 1, 2, 3, 4, 5, 6, 7, 8, 9, 10, 11, 12, 13, 14, 15, 16, 17, 18, 19, 20, 21, 22, 23, 24, 25, 26, 27, 28, 29, 30, 31, 32, 33, 34, 35, 36, 37, 38, 39, 40, 41] (by decide) (by decide) hec
  have hFc := vF_adr hDc hS hA
  refine va_calli (va_runV (As := [.int ((xs ((x3 + (1 : Int32))).toNatClampNeg))]) (rest := []) C (c_X7_from l dC dI cs g H.size B N P I1 T1 P1 I2 T2 P2 (xs ((x3 + (1 : Int32))).toNatClampNeg) r1051 hr1051) (cwV 1 hts gL_law_X7_from rfl rfl rfl (by decide +kernel) ⟨Nat.le_of_ble_eq_true rfl, Nat.le_of_ble_eq_true rfl⟩) ⟨(fun a U g mk q => ⟨q.1, q.2.1, q.2.2.1, GE.calling q.2.2.2.1, q.2.2.2.2⟩), va_recv hK hPc (ci := 7) (q0 := 0) rfl rfl, (fun U hU hW => ⟨rfl, by rw [hU], by rw [hU]; exact hPc, GE.warm hW G, hDc.weaken (fun _ _ _ _ => trivial)⟩)⟩ rfl rfl hl.1 rfl (lv_room (Nat.le_of_ble_eq_true rfl)) dL_law_1051 ⟨Nat.le_of_ble_eq_true rfl, Nat.le_of_ble_eq_true rfl⟩) hS (fun q _ h => hFc q h) hFc (fun q u t H1 locs ht hvm hw hB hz1 hk1 hS => ?_)
  obtain ⟨rfl, rfl⟩ := hw
  obtain ⟨hP1, -⟩ := hB
  rw [ht] at hP1
  have hP : va_P (dC, dI) vwCl (wAll cs g a r1051.2.1 r1051.2.2.1 r1051.2.2.2 I1 T1 P1 I2 T2 P2 X R L K M) H1 := ((((((((((((((hP1.l.l.l.l.l.l.l.l).app (hP1.l.l.l.l.l.l.l.r)).app (hP1.l.l.l.l.l.l.r)).app (hP1.l.l.l.l.l.r)).app (hP1.l.l.l.l.r)).app (hP1.l.l.l.r)).app (hP1.l.l.r)).app (hP1.l.r)).app (hP1.r)).app ((vP_keep hJ (hP.l.l.l.l.l.r) [42, 43] [0, 1, 2, 3, 4, 5, 6, 7, 8, 9, 10, 11, 12, 13, 14, 15, 16, 17, 18, 19, 20, 21, 22, 23, 24, 25, 26, 27, 28, 29, 30, 31, 32, 33, 34, 35, 36, 37, 38, 39, 40, 41] rfl hec (by decide) (by decide) hk1))).app ((vP_keep hJ (hP.l.l.l.l.r) [44] [0, 1, 2, 3, 4, 5, 6, 7, 8, 9, 10, 11, 12, 13, 14, 15, 16, 17, 18, 19, 20, 21, 22, 23, 24, 25, 26, 27, 28, 29, 30, 31, 32, 33, 34, 35, 36, 37, 38, 39, 40, 41] rfl hec (by decide) (by decide) hk1))).app ((vP_keep hJ (hP.l.l.l.r) [45, 46, 47, 48, 49, 50, 51, 52, 53, 54, 55] [0, 1, 2, 3, 4, 5, 6, 7, 8, 9, 10, 11, 12, 13, 14, 15, 16, 17, 18, 19, 20, 21, 22, 23, 24, 25, 26, 27, 28, 29, 30, 31, 32, 33, 34, 35, 36, 37, 38, 39, 40, 41] rfl hec (by decide) (by decide) hk1))).app ((vP_keep hJ (hP.l.l.r) [56, 57, 58, 59] [0, 1, 2, 3, 4, 5, 6, 7, 8, 9, 10, 11, 12, 13, 14, 15, 16, 17, 18, 19, 20, 21, 22, 23, 24, 25, 26, 27, 28, 29, 30, 31, 32, 33, 34, 35, 36, 37, 38, 39, 40, 41] rfl hec (by decide) (by decide) hk1))).app ((vP_keep hJ (hP.l.r) [60, 61] [0, 1, 2, 3, 4, 5, 6, 7, 8, 9, 10, 11, 12, 13, 14, 15, 16, 17, 18, 19, 20, 21, 22, 23, 24, 25, 26, 27, 28, 29, 30, 31, 32, 33, 34, 35, 36, 37, 38, 39, 40, 41] rfl hec (by decide) (by decide) hk1))).app ((vP_keep hJ (hP.r) [62, 63, 64, 65, 66, 67, 68, 69, 70, 71, 72, 73] [0, 1, 2, 3, 4, 5, 6, 7, 8, 9, 10, 11, 12, 13, 14, 15, 16, 17, 18, 19, 20, 21, 22, 23, 24, 25, 26, 27, 28, 29, 30, 31, 32, 33, 34, 35, 36, 37, 38, 39, 40, 41] rfl hec (by decide) (by decide) hk1))
  generalize H1 = H at hP hS ⊢
  refine lv_aload_n hx hb dL_law_1054 rfl (lv_at hl 2 rfl) ?_
  refine lv_aload_n hx hb dL_law_1055 rfl (lv_at hl 0 rfl) ?_
  refine lv_iload_n hx hb dL_law_1056 rfl (lv_at hl 3 rfl) ?_
  refine lv_iconst (v := 1) hx hb dL_law_1057 (by decide) ?_
  refine lv_iadd hx hb dL_law_1058 ?_
  obtain ⟨hi2, hf⟩ := gi_e hf
  refine va_sld hx hb hX hbl hbA hS hi2 dL_law_1059 ?_
  obtain ⟨r1060, hr1060, hf⟩ := bn_e hf
  have hPc : va_P (dC, dI) vwCl (wM cs a M) _ := hP.r
  have hec : ((wM cs a M)).map Prod.fst = ([62, 63, 64, 65, 66, 67, 68, 69, 70, 71, 72, 73] : List Nat).map (adr g a) := rfl
  have hDc := vD_adr hJ [62, 63, 64, 65, 66, 67, 68, 69, 70, 71, 72, 73] (by decide) (by decide) hec
  have hFc := vF_adr hDc hS hA
  refine va_calli (va_runV (As := [.int ((xs ((x3 + (1 : Int32))).toNatClampNeg))]) (rest := [.int (r1051.1)]) C (c_X8_from l dC dI cs a H.size M (xs ((x3 + (1 : Int32))).toNatClampNeg) r1060 hr1060) (cwV 1 hts gL_law_X8_from rfl rfl rfl (by decide +kernel) ⟨Nat.le_of_ble_eq_true rfl, Nat.le_of_ble_eq_true rfl⟩) ⟨(fun a U g mk q => ⟨q.1, q.2.1, q.2.2.1, GE.calling q.2.2.2.1, q.2.2.2.2⟩), va_recv hK hPc (ci := 8) (q0 := 0) rfl rfl, (fun U hU hW => ⟨rfl, by rw [hU], by rw [hU]; exact hPc, GE.warm hW G, hDc.weaken (fun _ _ _ _ => trivial)⟩)⟩ rfl rfl hl.1 rfl (lv_room (Nat.le_of_ble_eq_true rfl)) dL_law_1060 ⟨Nat.le_of_ble_eq_true rfl, Nat.le_of_ble_eq_true rfl⟩) hS (fun q _ h => hFc q h) hFc (fun q u t H1 locs ht hvm hw hB hz1 hk1 hS => ?_)
  obtain ⟨rfl, rfl⟩ := hw
  obtain ⟨hP1, -⟩ := hB
  rw [ht] at hP1
  have hP : va_P (dC, dI) vwCl (wAll cs g a r1051.2.1 r1051.2.2.1 r1051.2.2.2 I1 T1 P1 I2 T2 P2 X R L K r1060.2) H1 := (((((((((((((((vP_keep hJ (hP.l.l.l.l.l.l.l.l.l.l.l.l.l.l) [0] [62, 63, 64, 65, 66, 67, 68, 69, 70, 71, 72, 73] rfl hec (by decide) (by decide) hk1)).app ((vP_keep hJ (hP.l.l.l.l.l.l.l.l.l.l.l.l.l.r) [1, 2, 3, 4, 5, 6, 7, 8, 9, 10, 11] [62, 63, 64, 65, 66, 67, 68, 69, 70, 71, 72, 73] rfl hec (by decide) (by decide) hk1))).app ((vP_keep hJ (hP.l.l.l.l.l.l.l.l.l.l.l.l.r) [12, 13] [62, 63, 64, 65, 66, 67, 68, 69, 70, 71, 72, 73] rfl hec (by decide) (by decide) hk1))).app ((vP_keep hJ (hP.l.l.l.l.l.l.l.l.l.l.l.r) [14] [62, 63, 64, 65, 66, 67, 68, 69, 70, 71, 72, 73] rfl hec (by decide) (by decide) hk1))).app ((vP_keep hJ (hP.l.l.l.l.l.l.l.l.l.l.r) [15, 16, 17, 18, 19, 20, 21, 22, 23, 24, 25] [62, 63, 64, 65, 66, 67, 68, 69, 70, 71, 72, 73] rfl hec (by decide) (by decide) hk1))).app ((vP_keep hJ (hP.l.l.l.l.l.l.l.l.l.r) [26, 27] [62, 63, 64, 65, 66, 67, 68, 69, 70, 71, 72, 73] rfl hec (by decide) (by decide) hk1))).app ((vP_keep hJ (hP.l.l.l.l.l.l.l.l.r) [28] [62, 63, 64, 65, 66, 67, 68, 69, 70, 71, 72, 73] rfl hec (by decide) (by decide) hk1))).app ((vP_keep hJ (hP.l.l.l.l.l.l.l.r) [29, 30, 31, 32, 33, 34, 35, 36, 37, 38, 39] [62, 63, 64, 65, 66, 67, 68, 69, 70, 71, 72, 73] rfl hec (by decide) (by decide) hk1))).app ((vP_keep hJ (hP.l.l.l.l.l.l.r) [40, 41] [62, 63, 64, 65, 66, 67, 68, 69, 70, 71, 72, 73] rfl hec (by decide) (by decide) hk1))).app ((vP_keep hJ (hP.l.l.l.l.l.r) [42, 43] [62, 63, 64, 65, 66, 67, 68, 69, 70, 71, 72, 73] rfl hec (by decide) (by decide) hk1))).app ((vP_keep hJ (hP.l.l.l.l.r) [44] [62, 63, 64, 65, 66, 67, 68, 69, 70, 71, 72, 73] rfl hec (by decide) (by decide) hk1))).app ((vP_keep hJ (hP.l.l.l.r) [45, 46, 47, 48, 49, 50, 51, 52, 53, 54, 55] [62, 63, 64, 65, 66, 67, 68, 69, 70, 71, 72, 73] rfl hec (by decide) (by decide) hk1))).app ((vP_keep hJ (hP.l.l.r) [56, 57, 58, 59] [62, 63, 64, 65, 66, 67, 68, 69, 70, 71, 72, 73] rfl hec (by decide) (by decide) hk1))).app ((vP_keep hJ (hP.l.r) [60, 61] [62, 63, 64, 65, 66, 67, 68, 69, 70, 71, 72, 73] rfl hec (by decide) (by decide) hk1))).app (hP1)
  generalize H1 = H at hP hS ⊢
  refine lv_icmp_eq (tgt := 1128) hx hb dL_law_1063 (by decide) (fun c3 => ?_) (fun c3 => ?_)
  · replace hf := it_t c3 hf
    exact b_L_law_1128 C G hX hbl hbA hE hJ hA hR x3 r1051.2.1 r1051.2.2.1 r1051.2.2.2 I1 T1 P1 I2 T2 P2 X R L K r1060.2 hK18 _ _ _ (lv_sub hl [0, 1, 2, 3] rfl) hP hS hf
  · replace hf := it_f c3 hf
    refine lv_iconst (v := 0) hx hb dL_law_1066 (by decide) ?_
    exact hR _ _ _ _ _ dL_law_1067 hf hS
def f_L_law_1068 (Ls : Nat) (xs : Nat → Int32) (x3 : Int32) (B : Nat → Int32) (N : Tw) (P : Ps) (I1 : Int32) (T1 : Tw) (P1 : Ps) (I2 : Int32) (T2 : Tw) (P2 : Ps) (X : Tx) (R : Tw) (L : Wl) (K : Ch) (M : Ms) (K18 : Int32 → (Nat → Int32) → Tw → Ps → Int32 → Tw → Ps → Int32 → Tw → Ps → Tx → Tw → Wl → Ch → Ms → Option Int32) : Option Int32 :=
  gi ((x3 + (1 : Int32))) Ls <|
  bn (f_X7_status (xs ((x3 + (1 : Int32))).toNatClampNeg) B) fun r1074 =>
  gi ((x3 + (1 : Int32))) Ls <|
  bn (f_X8_status (xs ((x3 + (1 : Int32))).toNatClampNeg) M) fun r1083 =>
  if r1074.1 = r1083.1 then (
    f_L_law_1128 Ls xs x3 r1074.2 N P I1 T1 P1 I2 T2 P2 X R L K r1083.2 K18
  ) else (
    some (0 : Int32)
  )
set_option maxHeartbeats 4000000 in
set_option maxRecDepth 100000 in
theorem b_L_law_1068 {p : Program} {l : Launch} {e : Env} {s : State} {m : MethodId} {args : Array Value} {below : List Frame} {meth : Method} {c : Code} {Q : State → Prop} {dC : Nat → ClassId} {dI : Nat → Nat → Nat} {cs : Nat → ClassId} {A : Nat → Prop} {g : Nat → Nat} {adK : Nat → Nat} {adV : Nat → Nat} {b : Nat} {a : Nat → Nat} {Ls : Nat} {xs : Nat → Int32} {res : Int32} (C : CallFix p m c cL_law 4 s args wsL_law RL) (G : GE dC dI cs s) (hX : va_X b Ls xs s s.heap) (hbl : b < s.heap.size) (hbA : ¬ A b) (hE : SE adK adV A s s.heap) (hJ : adI A (adr g a) 74) (hA : ∀ q : Nat, s.heap.size ≤ q → A q) (hR : RTw p l e s m args below meth c Q A res) (x3 : Int32) (B : Nat → Int32) (N : Tw) (P : Ps) (I1 : Int32) (T1 : Tw) (P1 : Ps) (I2 : Int32) (T2 : Tw) (P2 : Ps) (X : Tx) (R : Tw) (L : Wl) (K : Ch) (M : Ms) {K18 : Int32 → (Nat → Int32) → Tw → Ps → Int32 → Tw → Ps → Int32 → Tw → Ps → Tx → Tw → Wl → Ch → Ms → Option Int32} (hK18 : ∀ (x3 : Int32) (B : Nat → Int32) (N : Tw) (P : Ps) (I1 : Int32) (T1 : Tw) (P1 : Ps) (I2 : Int32) (T2 : Tw) (P2 : Ps) (X : Tx) (R : Tw) (L : Wl) (K : Ch) (M : Ms) (H : Heap) (locs : List Loc) (ls : Array Slot), lv_has ls 4 [(0, .ref b), (1, .ref (g 0)), (2, .ref (a 0)), (3, .int (x3))] → va_P (dC, dI) vwCl (wAll cs g a B N P I1 T1 P1 I2 T2 P2 X R L K M) H → va_S A s.heap H locs → K18 x3 B N P I1 T1 P1 I2 T2 P2 X R L K M = some res → W p l e room_1 s m args below meth c H locs 74 3434 Q (F0 m 18 ls [])) (H : Heap) (locs : List Loc) (ls : Array Slot) (hl : lv_has ls 4 [(0, .ref b), (1, .ref (g 0)), (2, .ref (a 0)), (3, .int (x3))]) (hP : va_P (dC, dI) vwCl (wAll cs g a B N P I1 T1 P1 I2 T2 P2 X R L K M) H) (hS : va_S A s.heap H locs) (hf : f_L_law_1068 Ls xs x3 B N P I1 T1 P1 I2 T2 P2 X R L K M K18 = some res) : W p l e room_1 s m args below meth c H locs 74 3434 Q (F0 m 1068 ls []) := by
  obtain ⟨hx, hb, hml, hown, hts⟩ := id C
  obtain ⟨hK, hN⟩ := id G
  unfold f_L_law_1068 at hf
  refine lv_aload_n hx hb dL_law_1068 rfl (lv_at hl 1 rfl) ?_
  refine lv_aload_n hx hb dL_law_1069 rfl (lv_at hl 0 rfl) ?_
  refine lv_iload_n hx hb dL_law_1070 rfl (lv_at hl 3 rfl) ?_
  refine lv_iconst (v := 1) hx hb dL_law_1071 (by decide) ?_
  refine lv_iadd hx hb dL_law_1072 ?_
  obtain ⟨hi1, hf⟩ := gi_e hf
  refine va_sld hx hb hX hbl hbA hS hi1 dL_law_1073 ?_
  obtain ⟨r1074, hr1074, hf⟩ := bn_e hf
  have hPc : va_P (dC, dI) vwCl (wB g B) _ := hP.l.l.l.l.l.l.l.l.l.l.l.l.l.l
  have hec : ((wB g B)).map Prod.fst = ([0] : List Nat).map (adr g a) := rfl
  have hDc := vD_adr hJ [0] (by decide) (by decide) hec
  have hFc := vF_adr hDc hS hA
  refine va_calli (va_runV (As := [.int ((xs ((x3 + (1 : Int32))).toNatClampNeg))]) (rest := []) C (c_X7_status l dC dI cs g H.size B (xs ((x3 + (1 : Int32))).toNatClampNeg) r1074 hr1074) (cwV 1 hts gL_law_X7_status rfl rfl rfl (by decide +kernel) ⟨Nat.le_of_ble_eq_true rfl, Nat.le_of_ble_eq_true rfl⟩) ⟨(fun a U g mk q => ⟨q.1, q.2.1, q.2.2.1, GE.calling q.2.2.2.1, q.2.2.2.2⟩), va_recv hK hPc (ci := 7) (q0 := 0) rfl rfl, (fun U hU hW => ⟨rfl, by rw [hU], by rw [hU]; exact hPc, GE.warm hW G, hDc.weaken (fun _ _ _ _ => trivial)⟩)⟩ rfl rfl hl.1 rfl (lv_room (Nat.le_of_ble_eq_true rfl)) dL_law_1074 ⟨Nat.le_of_ble_eq_true rfl, Nat.le_of_ble_eq_true rfl⟩) hS (fun q _ h => hFc q h) hFc (fun q u t H1 locs ht hvm hw hB hz1 hk1 hS => ?_)
  obtain ⟨rfl, rfl⟩ := hw
  obtain ⟨hP1, -⟩ := hB
  rw [ht] at hP1
  have hP : va_P (dC, dI) vwCl (wAll cs g a r1074.2 N P I1 T1 P1 I2 T2 P2 X R L K M) H1 := ((((((((((((((hP1).app ((vP_keep hJ (hP.l.l.l.l.l.l.l.l.l.l.l.l.l.r) [1, 2, 3, 4, 5, 6, 7, 8, 9, 10, 11] [0] rfl hec (by decide) (by decide) hk1))).app ((vP_keep hJ (hP.l.l.l.l.l.l.l.l.l.l.l.l.r) [12, 13] [0] rfl hec (by decide) (by decide) hk1))).app ((vP_keep hJ (hP.l.l.l.l.l.l.l.l.l.l.l.r) [14] [0] rfl hec (by decide) (by decide) hk1))).app ((vP_keep hJ (hP.l.l.l.l.l.l.l.l.l.l.r) [15, 16, 17, 18, 19, 20, 21, 22, 23, 24, 25] [0] rfl hec (by decide) (by decide) hk1))).app ((vP_keep hJ (hP.l.l.l.l.l.l.l.l.l.r) [26, 27] [0] rfl hec (by decide) (by decide) hk1))).app ((vP_keep hJ (hP.l.l.l.l.l.l.l.l.r) [28] [0] rfl hec (by decide) (by decide) hk1))).app ((vP_keep hJ (hP.l.l.l.l.l.l.l.r) [29, 30, 31, 32, 33, 34, 35, 36, 37, 38, 39] [0] rfl hec (by decide) (by decide) hk1))).app ((vP_keep hJ (hP.l.l.l.l.l.l.r) [40, 41] [0] rfl hec (by decide) (by decide) hk1))).app ((vP_keep hJ (hP.l.l.l.l.l.r) [42, 43] [0] rfl hec (by decide) (by decide) hk1))).app ((vP_keep hJ (hP.l.l.l.l.r) [44] [0] rfl hec (by decide) (by decide) hk1))).app ((vP_keep hJ (hP.l.l.l.r) [45, 46, 47, 48, 49, 50, 51, 52, 53, 54, 55] [0] rfl hec (by decide) (by decide) hk1))).app ((vP_keep hJ (hP.l.l.r) [56, 57, 58, 59] [0] rfl hec (by decide) (by decide) hk1))).app ((vP_keep hJ (hP.l.r) [60, 61] [0] rfl hec (by decide) (by decide) hk1))).app ((vP_keep hJ (hP.r) [62, 63, 64, 65, 66, 67, 68, 69, 70, 71, 72, 73] [0] rfl hec (by decide) (by decide) hk1))
  generalize H1 = H at hP hS ⊢
  refine lv_aload_n hx hb dL_law_1077 rfl (lv_at hl 2 rfl) ?_
  refine lv_aload_n hx hb dL_law_1078 rfl (lv_at hl 0 rfl) ?_
  refine lv_iload_n hx hb dL_law_1079 rfl (lv_at hl 3 rfl) ?_
  refine lv_iconst (v := 1) hx hb dL_law_1080 (by decide) ?_
  refine lv_iadd hx hb dL_law_1081 ?_
  obtain ⟨hi2, hf⟩ := gi_e hf
  refine va_sld hx hb hX hbl hbA hS hi2 dL_law_1082 ?_
  obtain ⟨r1083, hr1083, hf⟩ := bn_e hf
  have hPc : va_P (dC, dI) vwCl (wM cs a M) _ := hP.r
  have hec : ((wM cs a M)).map Prod.fst = ([62, 63, 64, 65, 66, 67, 68, 69, 70, 71, 72, 73] : List Nat).map (adr g a) := rfl
  have hDc := vD_adr hJ [62, 63, 64, 65, 66, 67, 68, 69, 70, 71, 72, 73] (by decide) (by decide) hec
  have hFc := vF_adr hDc hS hA
  refine va_calli (va_runV (As := [.int ((xs ((x3 + (1 : Int32))).toNatClampNeg))]) (rest := [.int (r1074.1)]) C (c_X8_status l dC dI cs a H.size M (xs ((x3 + (1 : Int32))).toNatClampNeg) r1083 hr1083) (cwV 1 hts gL_law_X8_status rfl rfl rfl (by decide +kernel) ⟨Nat.le_of_ble_eq_true rfl, Nat.le_of_ble_eq_true rfl⟩) ⟨(fun a U g mk q => ⟨q.1, q.2.1, q.2.2.1, GE.calling q.2.2.2.1, q.2.2.2.2⟩), va_recv hK hPc (ci := 8) (q0 := 0) rfl rfl, (fun U hU hW => ⟨rfl, by rw [hU], by rw [hU]; exact hPc, GE.warm hW G, hDc.weaken (fun _ _ _ _ => trivial)⟩)⟩ rfl rfl hl.1 rfl (lv_room (Nat.le_of_ble_eq_true rfl)) dL_law_1083 ⟨Nat.le_of_ble_eq_true rfl, Nat.le_of_ble_eq_true rfl⟩) hS (fun q _ h => hFc q h) hFc (fun q u t H1 locs ht hvm hw hB hz1 hk1 hS => ?_)
  obtain ⟨rfl, rfl⟩ := hw
  obtain ⟨hP1, -⟩ := hB
  rw [ht] at hP1
  have hP : va_P (dC, dI) vwCl (wAll cs g a r1074.2 N P I1 T1 P1 I2 T2 P2 X R L K r1083.2) H1 := (((((((((((((((vP_keep hJ (hP.l.l.l.l.l.l.l.l.l.l.l.l.l.l) [0] [62, 63, 64, 65, 66, 67, 68, 69, 70, 71, 72, 73] rfl hec (by decide) (by decide) hk1)).app ((vP_keep hJ (hP.l.l.l.l.l.l.l.l.l.l.l.l.l.r) [1, 2, 3, 4, 5, 6, 7, 8, 9, 10, 11] [62, 63, 64, 65, 66, 67, 68, 69, 70, 71, 72, 73] rfl hec (by decide) (by decide) hk1))).app ((vP_keep hJ (hP.l.l.l.l.l.l.l.l.l.l.l.l.r) [12, 13] [62, 63, 64, 65, 66, 67, 68, 69, 70, 71, 72, 73] rfl hec (by decide) (by decide) hk1))).app ((vP_keep hJ (hP.l.l.l.l.l.l.l.l.l.l.l.r) [14] [62, 63, 64, 65, 66, 67, 68, 69, 70, 71, 72, 73] rfl hec (by decide) (by decide) hk1))).app ((vP_keep hJ (hP.l.l.l.l.l.l.l.l.l.l.r) [15, 16, 17, 18, 19, 20, 21, 22, 23, 24, 25] [62, 63, 64, 65, 66, 67, 68, 69, 70, 71, 72, 73] rfl hec (by decide) (by decide) hk1))).app ((vP_keep hJ (hP.l.l.l.l.l.l.l.l.l.r) [26, 27] [62, 63, 64, 65, 66, 67, 68, 69, 70, 71, 72, 73] rfl hec (by decide) (by decide) hk1))).app ((vP_keep hJ (hP.l.l.l.l.l.l.l.l.r) [28] [62, 63, 64, 65, 66, 67, 68, 69, 70, 71, 72, 73] rfl hec (by decide) (by decide) hk1))).app ((vP_keep hJ (hP.l.l.l.l.l.l.l.r) [29, 30, 31, 32, 33, 34, 35, 36, 37, 38, 39] [62, 63, 64, 65, 66, 67, 68, 69, 70, 71, 72, 73] rfl hec (by decide) (by decide) hk1))).app ((vP_keep hJ (hP.l.l.l.l.l.l.r) [40, 41] [62, 63, 64, 65, 66, 67, 68, 69, 70, 71, 72, 73] rfl hec (by decide) (by decide) hk1))).app ((vP_keep hJ (hP.l.l.l.l.l.r) [42, 43] [62, 63, 64, 65, 66, 67, 68, 69, 70, 71, 72, 73] rfl hec (by decide) (by decide) hk1))).app ((vP_keep hJ (hP.l.l.l.l.r) [44] [62, 63, 64, 65, 66, 67, 68, 69, 70, 71, 72, 73] rfl hec (by decide) (by decide) hk1))).app ((vP_keep hJ (hP.l.l.l.r) [45, 46, 47, 48, 49, 50, 51, 52, 53, 54, 55] [62, 63, 64, 65, 66, 67, 68, 69, 70, 71, 72, 73] rfl hec (by decide) (by decide) hk1))).app ((vP_keep hJ (hP.l.l.r) [56, 57, 58, 59] [62, 63, 64, 65, 66, 67, 68, 69, 70, 71, 72, 73] rfl hec (by decide) (by decide) hk1))).app ((vP_keep hJ (hP.l.r) [60, 61] [62, 63, 64, 65, 66, 67, 68, 69, 70, 71, 72, 73] rfl hec (by decide) (by decide) hk1))).app (hP1)
  generalize H1 = H at hP hS ⊢
  refine lv_icmp_eq (tgt := 1128) hx hb dL_law_1086 (by decide) (fun c3 => ?_) (fun c3 => ?_)
  · replace hf := it_t c3 hf
    exact b_L_law_1128 C G hX hbl hbA hE hJ hA hR x3 r1074.2 N P I1 T1 P1 I2 T2 P2 X R L K r1083.2 hK18 _ _ _ (lv_sub hl [0, 1, 2, 3] rfl) hP hS hf
  · replace hf := it_f c3 hf
    refine lv_iconst (v := 0) hx hb dL_law_1089 (by decide) ?_
    exact hR _ _ _ _ _ dL_law_1090 hf hS
def f_L_law_1091 (Ls : Nat) (xs : Nat → Int32) (x3 : Int32) (B : Nat → Int32) (N : Tw) (P : Ps) (I1 : Int32) (T1 : Tw) (P1 : Ps) (I2 : Int32) (T2 : Tw) (P2 : Ps) (X : Tx) (R : Tw) (L : Wl) (K : Ch) (M : Ms) (K18 : Int32 → (Nat → Int32) → Tw → Ps → Int32 → Tw → Ps → Int32 → Tw → Ps → Tx → Tw → Wl → Ch → Ms → Option Int32) : Option Int32 :=
  gi ((x3 + (1 : Int32))) Ls <|
  bn (f_X7_count (xs ((x3 + (1 : Int32))).toNatClampNeg) B N P X) fun r1097 =>
  gi ((x3 + (1 : Int32))) Ls <|
  bn (f_X8_count (xs ((x3 + (1 : Int32))).toNatClampNeg) M) fun r1106 =>
  if r1097.1 = r1106.1 then (
    f_L_law_1128 Ls xs x3 r1097.2 N P I1 T1 P1 I2 T2 P2 X R L K r1106.2 K18
  ) else (
    some (0 : Int32)
  )
set_option maxHeartbeats 4000000 in
set_option maxRecDepth 100000 in
theorem b_L_law_1091 {p : Program} {l : Launch} {e : Env} {s : State} {m : MethodId} {args : Array Value} {below : List Frame} {meth : Method} {c : Code} {Q : State → Prop} {dC : Nat → ClassId} {dI : Nat → Nat → Nat} {cs : Nat → ClassId} {A : Nat → Prop} {g : Nat → Nat} {adK : Nat → Nat} {adV : Nat → Nat} {b : Nat} {a : Nat → Nat} {Ls : Nat} {xs : Nat → Int32} {res : Int32} (C : CallFix p m c cL_law 4 s args wsL_law RL) (G : GE dC dI cs s) (hX : va_X b Ls xs s s.heap) (hbl : b < s.heap.size) (hbA : ¬ A b) (hE : SE adK adV A s s.heap) (hJ : adI A (adr g a) 74) (hA : ∀ q : Nat, s.heap.size ≤ q → A q) (hR : RTw p l e s m args below meth c Q A res) (x3 : Int32) (B : Nat → Int32) (N : Tw) (P : Ps) (I1 : Int32) (T1 : Tw) (P1 : Ps) (I2 : Int32) (T2 : Tw) (P2 : Ps) (X : Tx) (R : Tw) (L : Wl) (K : Ch) (M : Ms) {K18 : Int32 → (Nat → Int32) → Tw → Ps → Int32 → Tw → Ps → Int32 → Tw → Ps → Tx → Tw → Wl → Ch → Ms → Option Int32} (hK18 : ∀ (x3 : Int32) (B : Nat → Int32) (N : Tw) (P : Ps) (I1 : Int32) (T1 : Tw) (P1 : Ps) (I2 : Int32) (T2 : Tw) (P2 : Ps) (X : Tx) (R : Tw) (L : Wl) (K : Ch) (M : Ms) (H : Heap) (locs : List Loc) (ls : Array Slot), lv_has ls 4 [(0, .ref b), (1, .ref (g 0)), (2, .ref (a 0)), (3, .int (x3))] → va_P (dC, dI) vwCl (wAll cs g a B N P I1 T1 P1 I2 T2 P2 X R L K M) H → va_S A s.heap H locs → K18 x3 B N P I1 T1 P1 I2 T2 P2 X R L K M = some res → W p l e room_1 s m args below meth c H locs 74 3434 Q (F0 m 18 ls [])) (H : Heap) (locs : List Loc) (ls : Array Slot) (hl : lv_has ls 4 [(0, .ref b), (1, .ref (g 0)), (2, .ref (a 0)), (3, .int (x3))]) (hP : va_P (dC, dI) vwCl (wAll cs g a B N P I1 T1 P1 I2 T2 P2 X R L K M) H) (hS : va_S A s.heap H locs) (hf : f_L_law_1091 Ls xs x3 B N P I1 T1 P1 I2 T2 P2 X R L K M K18 = some res) : W p l e room_1 s m args below meth c H locs 74 3434 Q (F0 m 1091 ls []) := by
  obtain ⟨hx, hb, hml, hown, hts⟩ := id C
  obtain ⟨hK, hN⟩ := id G
  unfold f_L_law_1091 at hf
  refine lv_aload_n hx hb dL_law_1091 rfl (lv_at hl 1 rfl) ?_
  refine lv_aload_n hx hb dL_law_1092 rfl (lv_at hl 0 rfl) ?_
  refine lv_iload_n hx hb dL_law_1093 rfl (lv_at hl 3 rfl) ?_
  refine lv_iconst (v := 1) hx hb dL_law_1094 (by decide) ?_
  refine lv_iadd hx hb dL_law_1095 ?_
  obtain ⟨hi1, hf⟩ := gi_e hf
  refine va_sld hx hb hX hbl hbA hS hi1 dL_law_1096 ?_
  obtain ⟨r1097, hr1097, hf⟩ := bn_e hf
  have hPc : va_P (dC, dI) vwCl (wB g B ++ wT cs (fun i => g (1 + i)) N ++ wP cs (fun i => g (12 + i)) P ++ wX cs (fun i => g (42 + i)) X) _ := (((hP.l.l.l.l.l.l.l.l.l.l.l.l.l.l).app (hP.l.l.l.l.l.l.l.l.l.l.l.l.l.r)).app (hP.l.l.l.l.l.l.l.l.l.l.l.l.r)).app (hP.l.l.l.l.l.r)
  have hec : ((wB g B ++ wT cs (fun i => g (1 + i)) N ++ wP cs (fun i => g (12 + i)) P ++ wX cs (fun i => g (42 + i)) X)).map Prod.fst = ([0, 1, 2, 3, 4, 5, 6, 7, 8, 9, 10, 11, 12, 13, 42, 43] : List Nat).map (adr g a) := rfl
  have hDc := vD_adr hJ [0, 1, 2, 3, 4, 5, 6, 7, 8, 9, 10, 11, 12, 13, 42, 43] (by decide) (by decide) hec
  have hFc := vF_adr hDc hS hA
  refine va_calli (va_runV (As := [.int ((xs ((x3 + (1 : Int32))).toNatClampNeg))]) (rest := []) C (c_X7_count l dC dI cs g H.size B N P X (xs ((x3 + (1 : Int32))).toNatClampNeg) r1097 hr1097) (cwV 1 hts gL_law_X7_count rfl rfl rfl (by decide +kernel) ⟨Nat.le_of_ble_eq_true rfl, Nat.le_of_ble_eq_true rfl⟩) ⟨(fun a U g mk q => ⟨q.1, q.2.1, q.2.2.1, GE.calling q.2.2.2.1, q.2.2.2.2⟩), va_recv hK hPc (ci := 7) (q0 := 0) rfl rfl, (fun U hU hW => ⟨rfl, by rw [hU], by rw [hU]; exact hPc, GE.warm hW G, hDc.weaken (fun _ _ _ _ => trivial)⟩)⟩ rfl rfl hl.1 rfl (lv_room (Nat.le_of_ble_eq_true rfl)) dL_law_1097 ⟨Nat.le_of_ble_eq_true rfl, Nat.le_of_ble_eq_true rfl⟩) hS (fun q _ h => hFc q h) hFc (fun q u t H1 locs ht hvm hw hB hz1 hk1 hS => ?_)
  obtain ⟨rfl, rfl⟩ := hw
  obtain ⟨hP1, -⟩ := hB
  rw [ht] at hP1
  have hP : va_P (dC, dI) vwCl (wAll cs g a r1097.2 N P I1 T1 P1 I2 T2 P2 X R L K M) H1 := ((((((((((((((hP1.l.l.l).app (hP1.l.l.r)).app (hP1.l.r)).app ((vP_keep hJ (hP.l.l.l.l.l.l.l.l.l.l.l.r) [14] [0, 1, 2, 3, 4, 5, 6, 7, 8, 9, 10, 11, 12, 13, 42, 43] rfl hec (by decide) (by decide) hk1))).app ((vP_keep hJ (hP.l.l.l.l.l.l.l.l.l.l.r) [15, 16, 17, 18, 19, 20, 21, 22, 23, 24, 25] [0, 1, 2, 3, 4, 5, 6, 7, 8, 9, 10, 11, 12, 13, 42, 43] rfl hec (by decide) (by decide) hk1))).app ((vP_keep hJ (hP.l.l.l.l.l.l.l.l.l.r) [26, 27] [0, 1, 2, 3, 4, 5, 6, 7, 8, 9, 10, 11, 12, 13, 42, 43] rfl hec (by decide) (by decide) hk1))).app ((vP_keep hJ (hP.l.l.l.l.l.l.l.l.r) [28] [0, 1, 2, 3, 4, 5, 6, 7, 8, 9, 10, 11, 12, 13, 42, 43] rfl hec (by decide) (by decide) hk1))).app ((vP_keep hJ (hP.l.l.l.l.l.l.l.r) [29, 30, 31, 32, 33, 34, 35, 36, 37, 38, 39] [0, 1, 2, 3, 4, 5, 6, 7, 8, 9, 10, 11, 12, 13, 42, 43] rfl hec (by decide) (by decide) hk1))).app ((vP_keep hJ (hP.l.l.l.l.l.l.r) [40, 41] [0, 1, 2, 3, 4, 5, 6, 7, 8, 9, 10, 11, 12, 13, 42, 43] rfl hec (by decide) (by decide) hk1))).app (hP1.r)).app ((vP_keep hJ (hP.l.l.l.l.r) [44] [0, 1, 2, 3, 4, 5, 6, 7, 8, 9, 10, 11, 12, 13, 42, 43] rfl hec (by decide) (by decide) hk1))).app ((vP_keep hJ (hP.l.l.l.r) [45, 46, 47, 48, 49, 50, 51, 52, 53, 54, 55] [0, 1, 2, 3, 4, 5, 6, 7, 8, 9, 10, 11, 12, 13, 42, 43] rfl hec (by decide) (by decide) hk1))).app ((vP_keep hJ (hP.l.l.r) [56, 57, 58, 59] [0, 1, 2, 3, 4, 5, 6, 7, 8, 9, 10, 11, 12, 13, 42, 43] rfl hec (by decide) (by decide) hk1))).app ((vP_keep hJ (hP.l.r) [60, 61] [0, 1, 2, 3, 4, 5, 6, 7, 8, 9, 10, 11, 12, 13, 42, 43] rfl hec (by decide) (by decide) hk1))).app ((vP_keep hJ (hP.r) [62, 63, 64, 65, 66, 67, 68, 69, 70, 71, 72, 73] [0, 1, 2, 3, 4, 5, 6, 7, 8, 9, 10, 11, 12, 13, 42, 43] rfl hec (by decide) (by decide) hk1))
  generalize H1 = H at hP hS ⊢
  refine lv_aload_n hx hb dL_law_1100 rfl (lv_at hl 2 rfl) ?_
  refine lv_aload_n hx hb dL_law_1101 rfl (lv_at hl 0 rfl) ?_
  refine lv_iload_n hx hb dL_law_1102 rfl (lv_at hl 3 rfl) ?_
  refine lv_iconst (v := 1) hx hb dL_law_1103 (by decide) ?_
  refine lv_iadd hx hb dL_law_1104 ?_
  obtain ⟨hi2, hf⟩ := gi_e hf
  refine va_sld hx hb hX hbl hbA hS hi2 dL_law_1105 ?_
  obtain ⟨r1106, hr1106, hf⟩ := bn_e hf
  have hPc : va_P (dC, dI) vwCl (wM cs a M) _ := hP.r
  have hec : ((wM cs a M)).map Prod.fst = ([62, 63, 64, 65, 66, 67, 68, 69, 70, 71, 72, 73] : List Nat).map (adr g a) := rfl
  have hDc := vD_adr hJ [62, 63, 64, 65, 66, 67, 68, 69, 70, 71, 72, 73] (by decide) (by decide) hec
  have hFc := vF_adr hDc hS hA
  refine va_calli (va_runV (As := [.int ((xs ((x3 + (1 : Int32))).toNatClampNeg))]) (rest := [.int (r1097.1)]) C (c_X8_count l dC dI cs a H.size M (xs ((x3 + (1 : Int32))).toNatClampNeg) r1106 hr1106) (cwV 1 hts gL_law_X8_count rfl rfl rfl (by decide +kernel) ⟨Nat.le_of_ble_eq_true rfl, Nat.le_of_ble_eq_true rfl⟩) ⟨(fun a U g mk q => ⟨q.1, q.2.1, q.2.2.1, GE.calling q.2.2.2.1, q.2.2.2.2⟩), va_recv hK hPc (ci := 8) (q0 := 0) rfl rfl, (fun U hU hW => ⟨rfl, by rw [hU], by rw [hU]; exact hPc, GE.warm hW G, hDc.weaken (fun _ _ _ _ => trivial)⟩)⟩ rfl rfl hl.1 rfl (lv_room (Nat.le_of_ble_eq_true rfl)) dL_law_1106 ⟨Nat.le_of_ble_eq_true rfl, Nat.le_of_ble_eq_true rfl⟩) hS (fun q _ h => hFc q h) hFc (fun q u t H1 locs ht hvm hw hB hz1 hk1 hS => ?_)
  obtain ⟨rfl, rfl⟩ := hw
  obtain ⟨hP1, -⟩ := hB
  rw [ht] at hP1
  have hP : va_P (dC, dI) vwCl (wAll cs g a r1097.2 N P I1 T1 P1 I2 T2 P2 X R L K r1106.2) H1 := (((((((((((((((vP_keep hJ (hP.l.l.l.l.l.l.l.l.l.l.l.l.l.l) [0] [62, 63, 64, 65, 66, 67, 68, 69, 70, 71, 72, 73] rfl hec (by decide) (by decide) hk1)).app ((vP_keep hJ (hP.l.l.l.l.l.l.l.l.l.l.l.l.l.r) [1, 2, 3, 4, 5, 6, 7, 8, 9, 10, 11] [62, 63, 64, 65, 66, 67, 68, 69, 70, 71, 72, 73] rfl hec (by decide) (by decide) hk1))).app ((vP_keep hJ (hP.l.l.l.l.l.l.l.l.l.l.l.l.r) [12, 13] [62, 63, 64, 65, 66, 67, 68, 69, 70, 71, 72, 73] rfl hec (by decide) (by decide) hk1))).app ((vP_keep hJ (hP.l.l.l.l.l.l.l.l.l.l.l.r) [14] [62, 63, 64, 65, 66, 67, 68, 69, 70, 71, 72, 73] rfl hec (by decide) (by decide) hk1))).app ((vP_keep hJ (hP.l.l.l.l.l.l.l.l.l.l.r) [15, 16, 17, 18, 19, 20, 21, 22, 23, 24, 25] [62, 63, 64, 65, 66, 67, 68, 69, 70, 71, 72, 73] rfl hec (by decide) (by decide) hk1))).app ((vP_keep hJ (hP.l.l.l.l.l.l.l.l.l.r) [26, 27] [62, 63, 64, 65, 66, 67, 68, 69, 70, 71, 72, 73] rfl hec (by decide) (by decide) hk1))).app ((vP_keep hJ (hP.l.l.l.l.l.l.l.l.r) [28] [62, 63, 64, 65, 66, 67, 68, 69, 70, 71, 72, 73] rfl hec (by decide) (by decide) hk1))).app ((vP_keep hJ (hP.l.l.l.l.l.l.l.r) [29, 30, 31, 32, 33, 34, 35, 36, 37, 38, 39] [62, 63, 64, 65, 66, 67, 68, 69, 70, 71, 72, 73] rfl hec (by decide) (by decide) hk1))).app ((vP_keep hJ (hP.l.l.l.l.l.l.r) [40, 41] [62, 63, 64, 65, 66, 67, 68, 69, 70, 71, 72, 73] rfl hec (by decide) (by decide) hk1))).app ((vP_keep hJ (hP.l.l.l.l.l.r) [42, 43] [62, 63, 64, 65, 66, 67, 68, 69, 70, 71, 72, 73] rfl hec (by decide) (by decide) hk1))).app ((vP_keep hJ (hP.l.l.l.l.r) [44] [62, 63, 64, 65, 66, 67, 68, 69, 70, 71, 72, 73] rfl hec (by decide) (by decide) hk1))).app ((vP_keep hJ (hP.l.l.l.r) [45, 46, 47, 48, 49, 50, 51, 52, 53, 54, 55] [62, 63, 64, 65, 66, 67, 68, 69, 70, 71, 72, 73] rfl hec (by decide) (by decide) hk1))).app ((vP_keep hJ (hP.l.l.r) [56, 57, 58, 59] [62, 63, 64, 65, 66, 67, 68, 69, 70, 71, 72, 73] rfl hec (by decide) (by decide) hk1))).app ((vP_keep hJ (hP.l.r) [60, 61] [62, 63, 64, 65, 66, 67, 68, 69, 70, 71, 72, 73] rfl hec (by decide) (by decide) hk1))).app (hP1)
  generalize H1 = H at hP hS ⊢
  refine lv_icmp_eq (tgt := 1128) hx hb dL_law_1109 (by decide) (fun c3 => ?_) (fun c3 => ?_)
  · replace hf := it_t c3 hf
    exact b_L_law_1128 C G hX hbl hbA hE hJ hA hR x3 r1097.2 N P I1 T1 P1 I2 T2 P2 X R L K r1106.2 hK18 _ _ _ (lv_sub hl [0, 1, 2, 3] rfl) hP hS hf
  · replace hf := it_f c3 hf
    refine lv_iconst (v := 0) hx hb dL_law_1112 (by decide) ?_
    exact hR _ _ _ _ _ dL_law_1113 hf hS
def f_L_law_1114 (Ls : Nat) (xs : Nat → Int32) (x3 : Int32) (B : Nat → Int32) (N : Tw) (P : Ps) (I1 : Int32) (T1 : Tw) (P1 : Ps) (I2 : Int32) (T2 : Tw) (P2 : Ps) (X : Tx) (R : Tw) (L : Wl) (K : Ch) (M : Ms) (K18 : Int32 → (Nat → Int32) → Tw → Ps → Int32 → Tw → Ps → Int32 → Tw → Ps → Tx → Tw → Wl → Ch → Ms → Option Int32) : Option Int32 :=
  bn (f_X7_digest B N P X K) fun r1115 =>
  bn (f_X8_digest M) fun r1119 =>
  if (lg_cmp r1115 r1119) = 0 then (
    f_L_law_1128 Ls xs x3 B N P I1 T1 P1 I2 T2 P2 X R L K M K18
  ) else (
    some (0 : Int32)
  )
set_option maxHeartbeats 4000000 in
set_option maxRecDepth 100000 in
theorem b_L_law_1114 {p : Program} {l : Launch} {e : Env} {s : State} {m : MethodId} {args : Array Value} {below : List Frame} {meth : Method} {c : Code} {Q : State → Prop} {dC : Nat → ClassId} {dI : Nat → Nat → Nat} {cs : Nat → ClassId} {A : Nat → Prop} {g : Nat → Nat} {adK : Nat → Nat} {adV : Nat → Nat} {b : Nat} {a : Nat → Nat} {Ls : Nat} {xs : Nat → Int32} {res : Int32} (C : CallFix p m c cL_law 4 s args wsL_law RL) (G : GE dC dI cs s) (hX : va_X b Ls xs s s.heap) (hbl : b < s.heap.size) (hbA : ¬ A b) (hE : SE adK adV A s s.heap) (hJ : adI A (adr g a) 74) (hA : ∀ q : Nat, s.heap.size ≤ q → A q) (hR : RTw p l e s m args below meth c Q A res) (x3 : Int32) (B : Nat → Int32) (N : Tw) (P : Ps) (I1 : Int32) (T1 : Tw) (P1 : Ps) (I2 : Int32) (T2 : Tw) (P2 : Ps) (X : Tx) (R : Tw) (L : Wl) (K : Ch) (M : Ms) {K18 : Int32 → (Nat → Int32) → Tw → Ps → Int32 → Tw → Ps → Int32 → Tw → Ps → Tx → Tw → Wl → Ch → Ms → Option Int32} (hK18 : ∀ (x3 : Int32) (B : Nat → Int32) (N : Tw) (P : Ps) (I1 : Int32) (T1 : Tw) (P1 : Ps) (I2 : Int32) (T2 : Tw) (P2 : Ps) (X : Tx) (R : Tw) (L : Wl) (K : Ch) (M : Ms) (H : Heap) (locs : List Loc) (ls : Array Slot), lv_has ls 4 [(0, .ref b), (1, .ref (g 0)), (2, .ref (a 0)), (3, .int (x3))] → va_P (dC, dI) vwCl (wAll cs g a B N P I1 T1 P1 I2 T2 P2 X R L K M) H → va_S A s.heap H locs → K18 x3 B N P I1 T1 P1 I2 T2 P2 X R L K M = some res → W p l e room_1 s m args below meth c H locs 74 3434 Q (F0 m 18 ls [])) (H : Heap) (locs : List Loc) (ls : Array Slot) (hl : lv_has ls 4 [(0, .ref b), (1, .ref (g 0)), (2, .ref (a 0)), (3, .int (x3))]) (hP : va_P (dC, dI) vwCl (wAll cs g a B N P I1 T1 P1 I2 T2 P2 X R L K M) H) (hS : va_S A s.heap H locs) (hf : f_L_law_1114 Ls xs x3 B N P I1 T1 P1 I2 T2 P2 X R L K M K18 = some res) : W p l e room_1 s m args below meth c H locs 74 3434 Q (F0 m 1114 ls []) := by
  obtain ⟨hx, hb, hml, hown, hts⟩ := id C
  obtain ⟨hK, hN⟩ := id G
  unfold f_L_law_1114 at hf
  refine lv_aload_n hx hb dL_law_1114 rfl (lv_at hl 1 rfl) ?_
  obtain ⟨r1115, hr1115, hf⟩ := bn_e hf
  have hPc : va_P (dC, dI) vwCl (wB g B ++ wT cs (fun i => g (1 + i)) N ++ wP cs (fun i => g (12 + i)) P ++ wX cs (fun i => g (42 + i)) X ++ wC cs (fun i => g (60 + i)) K) _ := ((((hP.l.l.l.l.l.l.l.l.l.l.l.l.l.l).app (hP.l.l.l.l.l.l.l.l.l.l.l.l.l.r)).app (hP.l.l.l.l.l.l.l.l.l.l.l.l.r)).app (hP.l.l.l.l.l.r)).app (hP.l.r)
  refine vp_callSl (W.runV (As := []) (rest := []) C (c_X7_digest l dC dI cs g B N P X K r1115 hr1115) (cwV 0 hts gL_law_X7_digest rfl rfl rfl (by decide +kernel) ⟨Nat.le_of_ble_eq_true rfl, Nat.le_of_ble_eq_true rfl⟩) ⟨(fun a U g mk q => ⟨q.1, q.2.1, GE.calling q.2.2⟩), va_recv hK hPc (ci := 7) (q0 := 0) rfl rfl, (fun U hU hW => ⟨rfl, by rw [hU]; exact hPc, GE.warm hW G⟩)⟩ rfl rfl hl.1 rfl (lv_room (Nat.le_of_ble_eq_true rfl)) dL_law_1115 ⟨Nat.le_of_ble_eq_true rfl, Nat.le_of_ble_eq_true rfl⟩) (fun qr1115 hqr1115 => ?_)
  obtain rfl := hqr1115.symm
  refine lv_aload_n hx hb dL_law_1118 rfl (lv_at hl 2 rfl) ?_
  obtain ⟨r1119, hr1119, hf⟩ := bn_e hf
  have hPc : va_P (dC, dI) vwCl (wM cs a M) _ := hP.r
  refine vp_callSl (W.runV (As := []) (rest := [.long (r1115)]) C (c_X8_digest l dC dI cs a M r1119 hr1119) (cwV 0 hts gL_law_X8_digest rfl rfl rfl (by decide +kernel) ⟨Nat.le_of_ble_eq_true rfl, Nat.le_of_ble_eq_true rfl⟩) ⟨(fun a U g mk q => ⟨q.1, q.2.1, GE.calling q.2.2⟩), va_recv hK hPc (ci := 8) (q0 := 0) rfl rfl, (fun U hU hW => ⟨rfl, by rw [hU]; exact hPc, GE.warm hW G⟩)⟩ rfl rfl hl.1 rfl (lv_room (Nat.le_of_ble_eq_true rfl)) dL_law_1119 ⟨Nat.le_of_ble_eq_true rfl, Nat.le_of_ble_eq_true rfl⟩) (fun qr1119 hqr1119 => ?_)
  obtain rfl := hqr1119.symm
  refine W.lcmp hx hb dL_law_1122 ?_
  refine lv_if_eq (tgt := 1128) hx hb dL_law_1123 (by decide) (fun c1 => ?_) (fun c1 => ?_)
  · replace hf := it_t c1 hf
    exact b_L_law_1128 C G hX hbl hbA hE hJ hA hR x3 B N P I1 T1 P1 I2 T2 P2 X R L K M hK18 _ _ _ (lv_sub hl [0, 1, 2, 3] rfl) hP hS hf
  · replace hf := it_f c1 hf
    refine lv_iconst (v := 0) hx hb dL_law_1126 (by decide) ?_
    exact hR _ _ _ _ _ dL_law_1127 hf hS
def f_L_law_18 (Ls : Nat) (xs : Nat → Int32) (x3 : Int32) (B : Nat → Int32) (N : Tw) (P : Ps) (I1 : Int32) (T1 : Tw) (P1 : Ps) (I2 : Int32) (T2 : Tw) (P2 : Ps) (X : Tx) (R : Tw) (L : Wl) (K : Ch) (M : Ms) (K18 : Int32 → (Nat → Int32) → Tw → Ps → Int32 → Tw → Ps → Int32 → Tw → Ps → Tx → Tw → Wl → Ch → Ms → Option Int32) : Option Int32 :=
  if ((nI Ls) - (5 : Int32)) < x3 then (
    some (1 : Int32)
  ) else (
    gi (x3) Ls <|
    if ((xs (x3).toNatClampNeg) &&& (63 : Int32)) = 0 then (
      f_L_law_184 Ls xs x3 B N P I1 T1 P1 I2 T2 P2 X R L K M K18
    ) else (
    if ((xs (x3).toNatClampNeg) &&& (63 : Int32)) = 1 then (
      f_L_law_207 Ls xs x3 B N P I1 T1 P1 I2 T2 P2 X R L K M K18
    ) else (
    if ((xs (x3).toNatClampNeg) &&& (63 : Int32)) = 2 then (
      f_L_law_230 Ls xs x3 B N P I1 T1 P1 I2 T2 P2 X R L K M K18
    ) else (
    if ((xs (x3).toNatClampNeg) &&& (63 : Int32)) = 3 then (
      f_L_law_273 Ls xs x3 B N P I1 T1 P1 I2 T2 P2 X R L K M K18
    ) else (
    if ((xs (x3).toNatClampNeg) &&& (63 : Int32)) = 4 then (
      f_L_law_316 Ls xs x3 B N P I1 T1 P1 I2 T2 P2 X R L K M K18
    ) else (
    if ((xs (x3).toNatClampNeg) &&& (63 : Int32)) = 5 then (
      f_L_law_349 Ls xs x3 B N P I1 T1 P1 I2 T2 P2 X R L K M K18
    ) else (
    if ((xs (x3).toNatClampNeg) &&& (63 : Int32)) = 6 then (
      f_L_law_362 Ls xs x3 B N P I1 T1 P1 I2 T2 P2 X R L K M K18
    ) else (
    if ((xs (x3).toNatClampNeg) &&& (63 : Int32)) = 7 then (
      f_L_law_385 Ls xs x3 B N P I1 T1 P1 I2 T2 P2 X R L K M K18
    ) else (
    if ((xs (x3).toNatClampNeg) &&& (63 : Int32)) = 8 then (
      f_L_law_398 Ls xs x3 B N P I1 T1 P1 I2 T2 P2 X R L K M K18
    ) else (
    if ((xs (x3).toNatClampNeg) &&& (63 : Int32)) = 9 then (
      f_L_law_411 Ls xs x3 B N P I1 T1 P1 I2 T2 P2 X R L K M K18
    ) else (
    if ((xs (x3).toNatClampNeg) &&& (63 : Int32)) = 10 then (
      f_L_law_434 Ls xs x3 B N P I1 T1 P1 I2 T2 P2 X R L K M K18
    ) else (
    if ((xs (x3).toNatClampNeg) &&& (63 : Int32)) = 11 then (
      f_L_law_467 Ls xs x3 B N P I1 T1 P1 I2 T2 P2 X R L K M K18
    ) else (
    if ((xs (x3).toNatClampNeg) &&& (63 : Int32)) = 12 then (
      f_L_law_510 Ls xs x3 B N P I1 T1 P1 I2 T2 P2 X R L K M K18
    ) else (
    if ((xs (x3).toNatClampNeg) &&& (63 : Int32)) = 13 then (
      f_L_law_523 Ls xs x3 B N P I1 T1 P1 I2 T2 P2 X R L K M K18
    ) else (
    if ((xs (x3).toNatClampNeg) &&& (63 : Int32)) = 14 then (
      f_L_law_556 Ls xs x3 B N P I1 T1 P1 I2 T2 P2 X R L K M K18
    ) else (
    if ((xs (x3).toNatClampNeg) &&& (63 : Int32)) = 15 then (
      f_L_law_589 Ls xs x3 B N P I1 T1 P1 I2 T2 P2 X R L K M K18
    ) else (
    if ((xs (x3).toNatClampNeg) &&& (63 : Int32)) = 16 then (
      f_L_law_622 Ls xs x3 B N P I1 T1 P1 I2 T2 P2 X R L K M K18
    ) else (
    if ((xs (x3).toNatClampNeg) &&& (63 : Int32)) = 17 then (
      f_L_law_655 Ls xs x3 B N P I1 T1 P1 I2 T2 P2 X R L K M K18
    ) else (
    if ((xs (x3).toNatClampNeg) &&& (63 : Int32)) = 18 then (
      f_L_law_698 Ls xs x3 B N P I1 T1 P1 I2 T2 P2 X R L K M K18
    ) else (
    if ((xs (x3).toNatClampNeg) &&& (63 : Int32)) = 19 then (
      f_L_law_721 Ls xs x3 B N P I1 T1 P1 I2 T2 P2 X R L K M K18
    ) else (
    if ((xs (x3).toNatClampNeg) &&& (63 : Int32)) = 20 then (
      f_L_law_744 Ls xs x3 B N P I1 T1 P1 I2 T2 P2 X R L K M K18
    ) else (
    if ((xs (x3).toNatClampNeg) &&& (63 : Int32)) = 21 then (
      f_L_law_777 Ls xs x3 B N P I1 T1 P1 I2 T2 P2 X R L K M K18
    ) else (
    if ((xs (x3).toNatClampNeg) &&& (63 : Int32)) = 22 then (
      f_L_law_790 Ls xs x3 B N P I1 T1 P1 I2 T2 P2 X R L K M K18
    ) else (
    if ((xs (x3).toNatClampNeg) &&& (63 : Int32)) = 23 then (
      f_L_law_813 Ls xs x3 B N P I1 T1 P1 I2 T2 P2 X R L K M K18
    ) else (
    if ((xs (x3).toNatClampNeg) &&& (63 : Int32)) = 24 then (
      f_L_law_856 Ls xs x3 B N P I1 T1 P1 I2 T2 P2 X R L K M K18
    ) else (
    if ((xs (x3).toNatClampNeg) &&& (63 : Int32)) = 25 then (
      f_L_law_889 Ls xs x3 B N P I1 T1 P1 I2 T2 P2 X R L K M K18
    ) else (
    if ((xs (x3).toNatClampNeg) &&& (63 : Int32)) = 26 then (
      f_L_law_912 Ls xs x3 B N P I1 T1 P1 I2 T2 P2 X R L K M K18
    ) else (
    if ((xs (x3).toNatClampNeg) &&& (63 : Int32)) = 27 then (
      f_L_law_945 Ls xs x3 B N P I1 T1 P1 I2 T2 P2 X R L K M K18
    ) else (
    if ((xs (x3).toNatClampNeg) &&& (63 : Int32)) = 28 then (
      f_L_law_998 Ls xs x3 B N P I1 T1 P1 I2 T2 P2 X R L K M K18
    ) else (
    if ((xs (x3).toNatClampNeg) &&& (63 : Int32)) = 29 then (
      f_L_law_1022 Ls xs x3 B N P I1 T1 P1 I2 T2 P2 X R L K M K18
    ) else (
    if ((xs (x3).toNatClampNeg) &&& (63 : Int32)) = 30 then (
      f_L_law_1045 Ls xs x3 B N P I1 T1 P1 I2 T2 P2 X R L K M K18
    ) else (
    if ((xs (x3).toNatClampNeg) &&& (63 : Int32)) = 31 then (
      f_L_law_1068 Ls xs x3 B N P I1 T1 P1 I2 T2 P2 X R L K M K18
    ) else (
    if ((xs (x3).toNatClampNeg) &&& (63 : Int32)) = 32 then (
      f_L_law_1091 Ls xs x3 B N P I1 T1 P1 I2 T2 P2 X R L K M K18
    ) else (
    if ((xs (x3).toNatClampNeg) &&& (63 : Int32)) = 33 then (
      f_L_law_1114 Ls xs x3 B N P I1 T1 P1 I2 T2 P2 X R L K M K18
    ) else (
    f_L_law_1128 Ls xs x3 B N P I1 T1 P1 I2 T2 P2 X R L K M K18
    ))))))))))))))))))))))))))))))))))
  )
set_option maxHeartbeats 4000000 in
set_option maxRecDepth 100000 in
theorem b_L_law_18 {p : Program} {l : Launch} {e : Env} {s : State} {m : MethodId} {args : Array Value} {below : List Frame} {meth : Method} {c : Code} {Q : State → Prop} {dC : Nat → ClassId} {dI : Nat → Nat → Nat} {cs : Nat → ClassId} {A : Nat → Prop} {g : Nat → Nat} {adK : Nat → Nat} {adV : Nat → Nat} {b : Nat} {a : Nat → Nat} {Ls : Nat} {xs : Nat → Int32} {res : Int32} (C : CallFix p m c cL_law 4 s args wsL_law RL) (G : GE dC dI cs s) (hX : va_X b Ls xs s s.heap) (hbl : b < s.heap.size) (hbA : ¬ A b) (hE : SE adK adV A s s.heap) (hJ : adI A (adr g a) 74) (hA : ∀ q : Nat, s.heap.size ≤ q → A q) (hR : RTw p l e s m args below meth c Q A res) (x3 : Int32) (B : Nat → Int32) (N : Tw) (P : Ps) (I1 : Int32) (T1 : Tw) (P1 : Ps) (I2 : Int32) (T2 : Tw) (P2 : Ps) (X : Tx) (R : Tw) (L : Wl) (K : Ch) (M : Ms) {K18 : Int32 → (Nat → Int32) → Tw → Ps → Int32 → Tw → Ps → Int32 → Tw → Ps → Tx → Tw → Wl → Ch → Ms → Option Int32} (hK18 : ∀ (x3 : Int32) (B : Nat → Int32) (N : Tw) (P : Ps) (I1 : Int32) (T1 : Tw) (P1 : Ps) (I2 : Int32) (T2 : Tw) (P2 : Ps) (X : Tx) (R : Tw) (L : Wl) (K : Ch) (M : Ms) (H : Heap) (locs : List Loc) (ls : Array Slot), lv_has ls 4 [(0, .ref b), (1, .ref (g 0)), (2, .ref (a 0)), (3, .int (x3))] → va_P (dC, dI) vwCl (wAll cs g a B N P I1 T1 P1 I2 T2 P2 X R L K M) H → va_S A s.heap H locs → K18 x3 B N P I1 T1 P1 I2 T2 P2 X R L K M = some res → W p l e room_1 s m args below meth c H locs 74 3434 Q (F0 m 18 ls [])) (H : Heap) (locs : List Loc) (ls : Array Slot) (hl : lv_has ls 4 [(0, .ref b), (1, .ref (g 0)), (2, .ref (a 0)), (3, .int (x3))]) (hP : va_P (dC, dI) vwCl (wAll cs g a B N P I1 T1 P1 I2 T2 P2 X R L K M) H) (hS : va_S A s.heap H locs) (hf : f_L_law_18 Ls xs x3 B N P I1 T1 P1 I2 T2 P2 X R L K M K18 = some res) : W p l e room_1 s m args below meth c H locs 74 3434 Q (F0 m 18 ls []) := by
  obtain ⟨hx, hb, hml, hown, hts⟩ := id C
  obtain ⟨hK, hN⟩ := id G
  unfold f_L_law_18 at hf
  refine lv_iload_n hx hb dL_law_18 rfl (lv_at hl 3 rfl) ?_
  refine lv_aload_n hx hb dL_law_19 rfl (lv_at hl 0 rfl) ?_
  refine va_slen hx hb hX hbl hbA hS dL_law_20 ?_
  refine lv_iconst (v := 5) hx hb dL_law_21 (by decide) ?_
  refine lv_isub hx hb dL_law_22 ?_
  refine lv_icmp_gt (tgt := 1134) hx hb dL_law_23 (by decide) (fun c1 => ?_) (fun c1 => ?_)
  · replace hf := it_t c1 hf
    refine lv_iconst (v := 1) hx hb dL_law_1134 (by decide) ?_
    exact hR _ _ _ _ _ dL_law_1135 hf hS
  · replace hf := it_f c1 hf
    refine lv_aload_n hx hb dL_law_26 rfl (lv_at hl 0 rfl) ?_
    refine lv_iload_n hx hb dL_law_27 rfl (lv_at hl 3 rfl) ?_
    obtain ⟨hi2, hf⟩ := gi_e hf
    refine va_sld hx hb hX hbl hbA hS hi2 dL_law_28 ?_
    refine lv_bipush (v := 63) hx hb dL_law_29 (by decide) ?_
    refine lv_iand hx hb dL_law_31 ?_
    by_cases c3 : ((xs (x3).toNatClampNeg) &&& (63 : Int32)) = 0
    · replace hf := it_t c3 hf
      refine lv_tableIn (tgt := 184) hx hb dL_law_32 (by rw [c3]; decide) (by rw [c3]; decide) (by rw [c3]; rfl) (by decide) ?_
      exact b_L_law_184 C G hX hbl hbA hE hJ hA hR x3 B N P I1 T1 P1 I2 T2 P2 X R L K M hK18 _ _ _ (lv_sub hl [0, 1, 2, 3] rfl) hP hS hf
    replace hf := it_f c3 hf
    by_cases c4 : ((xs (x3).toNatClampNeg) &&& (63 : Int32)) = 1
    · replace hf := it_t c4 hf
      refine lv_tableIn (tgt := 207) hx hb dL_law_32 (by rw [c4]; decide) (by rw [c4]; decide) (by rw [c4]; rfl) (by decide) ?_
      exact b_L_law_207 C G hX hbl hbA hE hJ hA hR x3 B N P I1 T1 P1 I2 T2 P2 X R L K M hK18 _ _ _ (lv_sub hl [0, 1, 2, 3] rfl) hP hS hf
    replace hf := it_f c4 hf
    by_cases c5 : ((xs (x3).toNatClampNeg) &&& (63 : Int32)) = 2
    · replace hf := it_t c5 hf
      refine lv_tableIn (tgt := 230) hx hb dL_law_32 (by rw [c5]; decide) (by rw [c5]; decide) (by rw [c5]; rfl) (by decide) ?_
      exact b_L_law_230 C G hX hbl hbA hE hJ hA hR x3 B N P I1 T1 P1 I2 T2 P2 X R L K M hK18 _ _ _ (lv_sub hl [0, 1, 2, 3] rfl) hP hS hf
    replace hf := it_f c5 hf
    by_cases c6 : ((xs (x3).toNatClampNeg) &&& (63 : Int32)) = 3
    · replace hf := it_t c6 hf
      refine lv_tableIn (tgt := 273) hx hb dL_law_32 (by rw [c6]; decide) (by rw [c6]; decide) (by rw [c6]; rfl) (by decide) ?_
      exact b_L_law_273 C G hX hbl hbA hE hJ hA hR x3 B N P I1 T1 P1 I2 T2 P2 X R L K M hK18 _ _ _ (lv_sub hl [0, 1, 2, 3] rfl) hP hS hf
    replace hf := it_f c6 hf
    by_cases c7 : ((xs (x3).toNatClampNeg) &&& (63 : Int32)) = 4
    · replace hf := it_t c7 hf
      refine lv_tableIn (tgt := 316) hx hb dL_law_32 (by rw [c7]; decide) (by rw [c7]; decide) (by rw [c7]; rfl) (by decide) ?_
      exact b_L_law_316 C G hX hbl hbA hE hJ hA hR x3 B N P I1 T1 P1 I2 T2 P2 X R L K M hK18 _ _ _ (lv_sub hl [0, 1, 2, 3] rfl) hP hS hf
    replace hf := it_f c7 hf
    by_cases c8 : ((xs (x3).toNatClampNeg) &&& (63 : Int32)) = 5
    · replace hf := it_t c8 hf
      refine lv_tableIn (tgt := 349) hx hb dL_law_32 (by rw [c8]; decide) (by rw [c8]; decide) (by rw [c8]; rfl) (by decide) ?_
      exact b_L_law_349 C G hX hbl hbA hE hJ hA hR x3 B N P I1 T1 P1 I2 T2 P2 X R L K M hK18 _ _ _ (lv_sub hl [0, 1, 2, 3] rfl) hP hS hf
    replace hf := it_f c8 hf
    by_cases c9 : ((xs (x3).toNatClampNeg) &&& (63 : Int32)) = 6
    · replace hf := it_t c9 hf
      refine lv_tableIn (tgt := 362) hx hb dL_law_32 (by rw [c9]; decide) (by rw [c9]; decide) (by rw [c9]; rfl) (by decide) ?_
      exact b_L_law_362 C G hX hbl hbA hE hJ hA hR x3 B N P I1 T1 P1 I2 T2 P2 X R L K M hK18 _ _ _ (lv_sub hl [0, 1, 2, 3] rfl) hP hS hf
    replace hf := it_f c9 hf
    by_cases c10 : ((xs (x3).toNatClampNeg) &&& (63 : Int32)) = 7
    · replace hf := it_t c10 hf
      refine lv_tableIn (tgt := 385) hx hb dL_law_32 (by rw [c10]; decide) (by rw [c10]; decide) (by rw [c10]; rfl) (by decide) ?_
      exact b_L_law_385 C G hX hbl hbA hE hJ hA hR x3 B N P I1 T1 P1 I2 T2 P2 X R L K M hK18 _ _ _ (lv_sub hl [0, 1, 2, 3] rfl) hP hS hf
    replace hf := it_f c10 hf
    by_cases c11 : ((xs (x3).toNatClampNeg) &&& (63 : Int32)) = 8
    · replace hf := it_t c11 hf
      refine lv_tableIn (tgt := 398) hx hb dL_law_32 (by rw [c11]; decide) (by rw [c11]; decide) (by rw [c11]; rfl) (by decide) ?_
      exact b_L_law_398 C G hX hbl hbA hE hJ hA hR x3 B N P I1 T1 P1 I2 T2 P2 X R L K M hK18 _ _ _ (lv_sub hl [0, 1, 2, 3] rfl) hP hS hf
    replace hf := it_f c11 hf
    by_cases c12 : ((xs (x3).toNatClampNeg) &&& (63 : Int32)) = 9
    · replace hf := it_t c12 hf
      refine lv_tableIn (tgt := 411) hx hb dL_law_32 (by rw [c12]; decide) (by rw [c12]; decide) (by rw [c12]; rfl) (by decide) ?_
      exact b_L_law_411 C G hX hbl hbA hE hJ hA hR x3 B N P I1 T1 P1 I2 T2 P2 X R L K M hK18 _ _ _ (lv_sub hl [0, 1, 2, 3] rfl) hP hS hf
    replace hf := it_f c12 hf
    by_cases c13 : ((xs (x3).toNatClampNeg) &&& (63 : Int32)) = 10
    · replace hf := it_t c13 hf
      refine lv_tableIn (tgt := 434) hx hb dL_law_32 (by rw [c13]; decide) (by rw [c13]; decide) (by rw [c13]; rfl) (by decide) ?_
      exact b_L_law_434 C G hX hbl hbA hE hJ hA hR x3 B N P I1 T1 P1 I2 T2 P2 X R L K M hK18 _ _ _ (lv_sub hl [0, 1, 2, 3] rfl) hP hS hf
    replace hf := it_f c13 hf
    by_cases c14 : ((xs (x3).toNatClampNeg) &&& (63 : Int32)) = 11
    · replace hf := it_t c14 hf
      refine lv_tableIn (tgt := 467) hx hb dL_law_32 (by rw [c14]; decide) (by rw [c14]; decide) (by rw [c14]; rfl) (by decide) ?_
      exact b_L_law_467 C G hX hbl hbA hE hJ hA hR x3 B N P I1 T1 P1 I2 T2 P2 X R L K M hK18 _ _ _ (lv_sub hl [0, 1, 2, 3] rfl) hP hS hf
    replace hf := it_f c14 hf
    by_cases c15 : ((xs (x3).toNatClampNeg) &&& (63 : Int32)) = 12
    · replace hf := it_t c15 hf
      refine lv_tableIn (tgt := 510) hx hb dL_law_32 (by rw [c15]; decide) (by rw [c15]; decide) (by rw [c15]; rfl) (by decide) ?_
      exact b_L_law_510 C G hX hbl hbA hE hJ hA hR x3 B N P I1 T1 P1 I2 T2 P2 X R L K M hK18 _ _ _ (lv_sub hl [0, 1, 2, 3] rfl) hP hS hf
    replace hf := it_f c15 hf
    by_cases c16 : ((xs (x3).toNatClampNeg) &&& (63 : Int32)) = 13
    · replace hf := it_t c16 hf
      refine lv_tableIn (tgt := 523) hx hb dL_law_32 (by rw [c16]; decide) (by rw [c16]; decide) (by rw [c16]; rfl) (by decide) ?_
      exact b_L_law_523 C G hX hbl hbA hE hJ hA hR x3 B N P I1 T1 P1 I2 T2 P2 X R L K M hK18 _ _ _ (lv_sub hl [0, 1, 2, 3] rfl) hP hS hf
    replace hf := it_f c16 hf
    by_cases c17 : ((xs (x3).toNatClampNeg) &&& (63 : Int32)) = 14
    · replace hf := it_t c17 hf
      refine lv_tableIn (tgt := 556) hx hb dL_law_32 (by rw [c17]; decide) (by rw [c17]; decide) (by rw [c17]; rfl) (by decide) ?_
      exact b_L_law_556 C G hX hbl hbA hE hJ hA hR x3 B N P I1 T1 P1 I2 T2 P2 X R L K M hK18 _ _ _ (lv_sub hl [0, 1, 2, 3] rfl) hP hS hf
    replace hf := it_f c17 hf
    by_cases c18 : ((xs (x3).toNatClampNeg) &&& (63 : Int32)) = 15
    · replace hf := it_t c18 hf
      refine lv_tableIn (tgt := 589) hx hb dL_law_32 (by rw [c18]; decide) (by rw [c18]; decide) (by rw [c18]; rfl) (by decide) ?_
      exact b_L_law_589 C G hX hbl hbA hE hJ hA hR x3 B N P I1 T1 P1 I2 T2 P2 X R L K M hK18 _ _ _ (lv_sub hl [0, 1, 2, 3] rfl) hP hS hf
    replace hf := it_f c18 hf
    by_cases c19 : ((xs (x3).toNatClampNeg) &&& (63 : Int32)) = 16
    · replace hf := it_t c19 hf
      refine lv_tableIn (tgt := 622) hx hb dL_law_32 (by rw [c19]; decide) (by rw [c19]; decide) (by rw [c19]; rfl) (by decide) ?_
      exact b_L_law_622 C G hX hbl hbA hE hJ hA hR x3 B N P I1 T1 P1 I2 T2 P2 X R L K M hK18 _ _ _ (lv_sub hl [0, 1, 2, 3] rfl) hP hS hf
    replace hf := it_f c19 hf
    by_cases c20 : ((xs (x3).toNatClampNeg) &&& (63 : Int32)) = 17
    · replace hf := it_t c20 hf
      refine lv_tableIn (tgt := 655) hx hb dL_law_32 (by rw [c20]; decide) (by rw [c20]; decide) (by rw [c20]; rfl) (by decide) ?_
      exact b_L_law_655 C G hX hbl hbA hE hJ hA hR x3 B N P I1 T1 P1 I2 T2 P2 X R L K M hK18 _ _ _ (lv_sub hl [0, 1, 2, 3] rfl) hP hS hf
    replace hf := it_f c20 hf
    by_cases c21 : ((xs (x3).toNatClampNeg) &&& (63 : Int32)) = 18
    · replace hf := it_t c21 hf
      refine lv_tableIn (tgt := 698) hx hb dL_law_32 (by rw [c21]; decide) (by rw [c21]; decide) (by rw [c21]; rfl) (by decide) ?_
      exact b_L_law_698 C G hX hbl hbA hE hJ hA hR x3 B N P I1 T1 P1 I2 T2 P2 X R L K M hK18 _ _ _ (lv_sub hl [0, 1, 2, 3] rfl) hP hS hf
    replace hf := it_f c21 hf
    by_cases c22 : ((xs (x3).toNatClampNeg) &&& (63 : Int32)) = 19
    · replace hf := it_t c22 hf
      refine lv_tableIn (tgt := 721) hx hb dL_law_32 (by rw [c22]; decide) (by rw [c22]; decide) (by rw [c22]; rfl) (by decide) ?_
      exact b_L_law_721 C G hX hbl hbA hE hJ hA hR x3 B N P I1 T1 P1 I2 T2 P2 X R L K M hK18 _ _ _ (lv_sub hl [0, 1, 2, 3] rfl) hP hS hf
    replace hf := it_f c22 hf
    by_cases c23 : ((xs (x3).toNatClampNeg) &&& (63 : Int32)) = 20
    · replace hf := it_t c23 hf
      refine lv_tableIn (tgt := 744) hx hb dL_law_32 (by rw [c23]; decide) (by rw [c23]; decide) (by rw [c23]; rfl) (by decide) ?_
      exact b_L_law_744 C G hX hbl hbA hE hJ hA hR x3 B N P I1 T1 P1 I2 T2 P2 X R L K M hK18 _ _ _ (lv_sub hl [0, 1, 2, 3] rfl) hP hS hf
    replace hf := it_f c23 hf
    by_cases c24 : ((xs (x3).toNatClampNeg) &&& (63 : Int32)) = 21
    · replace hf := it_t c24 hf
      refine lv_tableIn (tgt := 777) hx hb dL_law_32 (by rw [c24]; decide) (by rw [c24]; decide) (by rw [c24]; rfl) (by decide) ?_
      exact b_L_law_777 C G hX hbl hbA hE hJ hA hR x3 B N P I1 T1 P1 I2 T2 P2 X R L K M hK18 _ _ _ (lv_sub hl [0, 1, 2, 3] rfl) hP hS hf
    replace hf := it_f c24 hf
    by_cases c25 : ((xs (x3).toNatClampNeg) &&& (63 : Int32)) = 22
    · replace hf := it_t c25 hf
      refine lv_tableIn (tgt := 790) hx hb dL_law_32 (by rw [c25]; decide) (by rw [c25]; decide) (by rw [c25]; rfl) (by decide) ?_
      exact b_L_law_790 C G hX hbl hbA hE hJ hA hR x3 B N P I1 T1 P1 I2 T2 P2 X R L K M hK18 _ _ _ (lv_sub hl [0, 1, 2, 3] rfl) hP hS hf
    replace hf := it_f c25 hf
    by_cases c26 : ((xs (x3).toNatClampNeg) &&& (63 : Int32)) = 23
    · replace hf := it_t c26 hf
      refine lv_tableIn (tgt := 813) hx hb dL_law_32 (by rw [c26]; decide) (by rw [c26]; decide) (by rw [c26]; rfl) (by decide) ?_
      exact b_L_law_813 C G hX hbl hbA hE hJ hA hR x3 B N P I1 T1 P1 I2 T2 P2 X R L K M hK18 _ _ _ (lv_sub hl [0, 1, 2, 3] rfl) hP hS hf
    replace hf := it_f c26 hf
    by_cases c27 : ((xs (x3).toNatClampNeg) &&& (63 : Int32)) = 24
    · replace hf := it_t c27 hf
      refine lv_tableIn (tgt := 856) hx hb dL_law_32 (by rw [c27]; decide) (by rw [c27]; decide) (by rw [c27]; rfl) (by decide) ?_
      exact b_L_law_856 C G hX hbl hbA hE hJ hA hR x3 B N P I1 T1 P1 I2 T2 P2 X R L K M hK18 _ _ _ (lv_sub hl [0, 1, 2, 3] rfl) hP hS hf
    replace hf := it_f c27 hf
    by_cases c28 : ((xs (x3).toNatClampNeg) &&& (63 : Int32)) = 25
    · replace hf := it_t c28 hf
      refine lv_tableIn (tgt := 889) hx hb dL_law_32 (by rw [c28]; decide) (by rw [c28]; decide) (by rw [c28]; rfl) (by decide) ?_
      exact b_L_law_889 C G hX hbl hbA hE hJ hA hR x3 B N P I1 T1 P1 I2 T2 P2 X R L K M hK18 _ _ _ (lv_sub hl [0, 1, 2, 3] rfl) hP hS hf
    replace hf := it_f c28 hf
    by_cases c29 : ((xs (x3).toNatClampNeg) &&& (63 : Int32)) = 26
    · replace hf := it_t c29 hf
      refine lv_tableIn (tgt := 912) hx hb dL_law_32 (by rw [c29]; decide) (by rw [c29]; decide) (by rw [c29]; rfl) (by decide) ?_
      exact b_L_law_912 C G hX hbl hbA hE hJ hA hR x3 B N P I1 T1 P1 I2 T2 P2 X R L K M hK18 _ _ _ (lv_sub hl [0, 1, 2, 3] rfl) hP hS hf
    replace hf := it_f c29 hf
    by_cases c30 : ((xs (x3).toNatClampNeg) &&& (63 : Int32)) = 27
    · replace hf := it_t c30 hf
      refine lv_tableIn (tgt := 945) hx hb dL_law_32 (by rw [c30]; decide) (by rw [c30]; decide) (by rw [c30]; rfl) (by decide) ?_
      exact b_L_law_945 C G hX hbl hbA hE hJ hA hR x3 B N P I1 T1 P1 I2 T2 P2 X R L K M hK18 _ _ _ (lv_sub hl [0, 1, 2, 3] rfl) hP hS hf
    replace hf := it_f c30 hf
    by_cases c31 : ((xs (x3).toNatClampNeg) &&& (63 : Int32)) = 28
    · replace hf := it_t c31 hf
      refine lv_tableIn (tgt := 998) hx hb dL_law_32 (by rw [c31]; decide) (by rw [c31]; decide) (by rw [c31]; rfl) (by decide) ?_
      exact b_L_law_998 C G hX hbl hbA hE hJ hA hR x3 B N P I1 T1 P1 I2 T2 P2 X R L K M hK18 _ _ _ (lv_sub hl [0, 1, 2, 3] rfl) hP hS hf
    replace hf := it_f c31 hf
    by_cases c32 : ((xs (x3).toNatClampNeg) &&& (63 : Int32)) = 29
    · replace hf := it_t c32 hf
      refine lv_tableIn (tgt := 1022) hx hb dL_law_32 (by rw [c32]; decide) (by rw [c32]; decide) (by rw [c32]; rfl) (by decide) ?_
      exact b_L_law_1022 C G hX hbl hbA hE hJ hA hR x3 B N P I1 T1 P1 I2 T2 P2 X R L K M hK18 _ _ _ (lv_sub hl [0, 1, 2, 3] rfl) hP hS hf
    replace hf := it_f c32 hf
    by_cases c33 : ((xs (x3).toNatClampNeg) &&& (63 : Int32)) = 30
    · replace hf := it_t c33 hf
      refine lv_tableIn (tgt := 1045) hx hb dL_law_32 (by rw [c33]; decide) (by rw [c33]; decide) (by rw [c33]; rfl) (by decide) ?_
      exact b_L_law_1045 C G hX hbl hbA hE hJ hA hR x3 B N P I1 T1 P1 I2 T2 P2 X R L K M hK18 _ _ _ (lv_sub hl [0, 1, 2, 3] rfl) hP hS hf
    replace hf := it_f c33 hf
    by_cases c34 : ((xs (x3).toNatClampNeg) &&& (63 : Int32)) = 31
    · replace hf := it_t c34 hf
      refine lv_tableIn (tgt := 1068) hx hb dL_law_32 (by rw [c34]; decide) (by rw [c34]; decide) (by rw [c34]; rfl) (by decide) ?_
      exact b_L_law_1068 C G hX hbl hbA hE hJ hA hR x3 B N P I1 T1 P1 I2 T2 P2 X R L K M hK18 _ _ _ (lv_sub hl [0, 1, 2, 3] rfl) hP hS hf
    replace hf := it_f c34 hf
    by_cases c35 : ((xs (x3).toNatClampNeg) &&& (63 : Int32)) = 32
    · replace hf := it_t c35 hf
      refine lv_tableIn (tgt := 1091) hx hb dL_law_32 (by rw [c35]; decide) (by rw [c35]; decide) (by rw [c35]; rfl) (by decide) ?_
      exact b_L_law_1091 C G hX hbl hbA hE hJ hA hR x3 B N P I1 T1 P1 I2 T2 P2 X R L K M hK18 _ _ _ (lv_sub hl [0, 1, 2, 3] rfl) hP hS hf
    replace hf := it_f c35 hf
    by_cases c36 : ((xs (x3).toNatClampNeg) &&& (63 : Int32)) = 33
    · replace hf := it_t c36 hf
      refine lv_tableIn (tgt := 1114) hx hb dL_law_32 (by rw [c36]; decide) (by rw [c36]; decide) (by rw [c36]; rfl) (by decide) ?_
      exact b_L_law_1114 C G hX hbl hbA hE hJ hA hR x3 B N P I1 T1 P1 I2 T2 P2 X R L K M hK18 _ _ _ (lv_sub hl [0, 1, 2, 3] rfl) hP hS hf
    replace hf := it_f c36 hf
    have nc3 := lv_neT (a := 0) c3 (by decide)
    have nc4 := lv_neT (a := 1) c4 (by decide)
    have nc5 := lv_neT (a := 2) c5 (by decide)
    have nc6 := lv_neT (a := 3) c6 (by decide)
    have nc7 := lv_neT (a := 4) c7 (by decide)
    have nc8 := lv_neT (a := 5) c8 (by decide)
    have nc9 := lv_neT (a := 6) c9 (by decide)
    have nc10 := lv_neT (a := 7) c10 (by decide)
    have nc11 := lv_neT (a := 8) c11 (by decide)
    have nc12 := lv_neT (a := 9) c12 (by decide)
    have nc13 := lv_neT (a := 10) c13 (by decide)
    have nc14 := lv_neT (a := 11) c14 (by decide)
    have nc15 := lv_neT (a := 12) c15 (by decide)
    have nc16 := lv_neT (a := 13) c16 (by decide)
    have nc17 := lv_neT (a := 14) c17 (by decide)
    have nc18 := lv_neT (a := 15) c18 (by decide)
    have nc19 := lv_neT (a := 16) c19 (by decide)
    have nc20 := lv_neT (a := 17) c20 (by decide)
    have nc21 := lv_neT (a := 18) c21 (by decide)
    have nc22 := lv_neT (a := 19) c22 (by decide)
    have nc23 := lv_neT (a := 20) c23 (by decide)
    have nc24 := lv_neT (a := 21) c24 (by decide)
    have nc25 := lv_neT (a := 22) c25 (by decide)
    have nc26 := lv_neT (a := 23) c26 (by decide)
    have nc27 := lv_neT (a := 24) c27 (by decide)
    have nc28 := lv_neT (a := 25) c28 (by decide)
    have nc29 := lv_neT (a := 26) c29 (by decide)
    have nc30 := lv_neT (a := 27) c30 (by decide)
    have nc31 := lv_neT (a := 28) c31 (by decide)
    have nc32 := lv_neT (a := 29) c32 (by decide)
    have nc33 := lv_neT (a := 30) c33 (by decide)
    have nc34 := lv_neT (a := 31) c34 (by decide)
    have nc35 := lv_neT (a := 32) c35 (by decide)
    have nc36 := lv_neT (a := 33) c36 (by decide)
    refine lv_tableOut (tgt := 1128) hx hb dL_law_32 (by omega) (by decide) ?_
    exact b_L_law_1128 C G hX hbl hbA hE hJ hA hR x3 B N P I1 T1 P1 I2 T2 P2 X R L K M hK18 _ _ _ (lv_sub hl [0, 1, 2, 3] rfl) hP hS hf
def l_L_law_18 (Ls : Nat) (xs : Nat → Int32)   (n : Nat) (x3 : Int32) (B : Nat → Int32) (N : Tw) (P : Ps) (I1 : Int32) (T1 : Tw) (P1 : Ps) (I2 : Int32) (T2 : Tw) (P2 : Ps) (X : Tx) (R : Tw) (L : Wl) (K : Ch) (M : Ms) : Option Int32 := itr (fun (k : Int32 × (Nat → Int32) × Tw × Ps × Int32 × Tw × Ps × Int32 × Tw × Ps × Tx × Tw × Wl × Ch × Ms → Option Int32) (z : Int32 × (Nat → Int32) × Tw × Ps × Int32 × Tw × Ps × Int32 × Tw × Ps × Tx × Tw × Wl × Ch × Ms) => f_L_law_18 Ls xs z.1 z.2.1 z.2.2.1 z.2.2.2.1 z.2.2.2.2.1 z.2.2.2.2.2.1 z.2.2.2.2.2.2.1 z.2.2.2.2.2.2.2.1 z.2.2.2.2.2.2.2.2.1 z.2.2.2.2.2.2.2.2.2.1 z.2.2.2.2.2.2.2.2.2.2.1 z.2.2.2.2.2.2.2.2.2.2.2.1 z.2.2.2.2.2.2.2.2.2.2.2.2.1 z.2.2.2.2.2.2.2.2.2.2.2.2.2.1 z.2.2.2.2.2.2.2.2.2.2.2.2.2.2 (fun x3 B N P I1 T1 P1 I2 T2 P2 X R L K M => k (x3, B, N, P, I1, T1, P1, I2, T2, P2, X, R, L, K, M))) n (x3, B, N, P, I1, T1, P1, I2, T2, P2, X, R, L, K, M)
set_option maxHeartbeats 4000000 in
set_option maxRecDepth 100000 in
theorem w_L_law_18 {p : Program} {l : Launch} {e : Env} {s : State} {m : MethodId} {args : Array Value} {below : List Frame} {meth : Method} {c : Code} {Q : State → Prop} {dC : Nat → ClassId} {dI : Nat → Nat → Nat} {cs : Nat → ClassId} {A : Nat → Prop} {g : Nat → Nat} {adK : Nat → Nat} {adV : Nat → Nat} {b : Nat} {a : Nat → Nat} {Ls : Nat} {xs : Nat → Int32} {res : Int32} (C : CallFix p m c cL_law 4 s args wsL_law RL) (G : GE dC dI cs s) (hX : va_X b Ls xs s s.heap) (hbl : b < s.heap.size) (hbA : ¬ A b) (hE : SE adK adV A s s.heap) (hJ : adI A (adr g a) 74) (hA : ∀ q : Nat, s.heap.size ≤ q → A q) (hR : RTw p l e s m args below meth c Q A res)    : ∀ (n : Nat) (x3 : Int32) (B : Nat → Int32) (N : Tw) (P : Ps) (I1 : Int32) (T1 : Tw) (P1 : Ps) (I2 : Int32) (T2 : Tw) (P2 : Ps) (X : Tx) (R : Tw) (L : Wl) (K : Ch) (M : Ms) (H : Heap) (locs : List Loc) (ls : Array Slot), lv_has ls 4 [(0, .ref b), (1, .ref (g 0)), (2, .ref (a 0)), (3, .int (x3))] → va_P (dC, dI) vwCl (wAll cs g a B N P I1 T1 P1 I2 T2 P2 X R L K M) H → va_S A s.heap H locs → l_L_law_18 Ls xs n x3 B N P I1 T1 P1 I2 T2 P2 X R L K M = some res → W p l e room_1 s m args below meth c H locs 74 3434 Q (F0 m 18 ls []) := by
  intro n
  induction n with
  | zero => intro x3 B N P I1 T1 P1 I2 T2 P2 X R L K M H locs ls hl hP hS hf; exact absurd hf (by simp [l_L_law_18, itr])
  | succ n ih =>
    intro x3 B N P I1 T1 P1 I2 T2 P2 X R L K M H locs ls hl hP hS hf
    replace hf : f_L_law_18 Ls xs x3 B N P I1 T1 P1 I2 T2 P2 X R L K M (fun x3 B N P I1 T1 P1 I2 T2 P2 X R L K M => l_L_law_18 Ls xs n x3 B N P I1 T1 P1 I2 T2 P2 X R L K M) = some res := by rw [← hf]; unfold l_L_law_18; rw [itr_s]
    exact b_L_law_18 C G hX hbl hbA hE hJ hA hR x3 B N P I1 T1 P1 I2 T2 P2 X R L K M (K18 := fun x3 B N P I1 T1 P1 I2 T2 P2 X R L K M => l_L_law_18 Ls xs n x3 B N P I1 T1 P1 I2 T2 P2 X R L K M) (fun x3 B N P I1 T1 P1 I2 T2 P2 X R L K M H locs ls hl hP hS hf => ih x3 B N P I1 T1 P1 I2 T2 P2 X R L K M H locs ls hl hP hS hf) H locs ls hl hP hS hf
