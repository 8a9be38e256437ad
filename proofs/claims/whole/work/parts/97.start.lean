set_option maxHeartbeats 16000000 in
set_option maxRecDepth 100000 in
/-- THE LAW, from its entry, if the pure law holds -/
theorem law_start {p : Program} {e : Env} {s : State} {m : MethodId} {below : List Frame} {meth : Method} {c : Code} (l : Launch) {b L : Nat} {xs : Nat → Int32} (hpure : l_L_law_18 L xs FU 0 C0 T0 P0 0 T0 P0 0 T0 P0 X0 T0 L0 K0 M0 = some 1) (C9 : lw_At p s m meth c b L xs) : W p l e room_1 s m #[Value.ref b] below meth c s.heap [] 0 0 (lw_Z below #[Value.ref b] s) (entryFrame m ([Value.ref b] : List Value).toArray 4) := by
  obtain ⟨hx, hb, hr, hml, hown, hts0, hX, hbl, hlocks, hgv⟩ := id C9
  have hts : ∀ w ∈ wsL_law, w.before #[Value.ref b] s = true := fun w hw => hts0 w (wsL_law_in w hw)
  have C : CallFix p m c cL_law 4 s #[Value.ref b] wsL_law RL := ⟨hx, hb, hml, hown, hts⟩
  obtain ⟨dC, dI, cs, adK, adV, G, hE⟩ := law_env hts0 hgv
  obtain ⟨hK, hN⟩ := id G
  obtain ⟨A, hAe⟩ : ∃ A : Nat → Prop, A = (fun q : Nat => s.heap.size ≤ q) := ⟨_, rfl⟩
  rw [← hAe] at hE
  have hA : ∀ q : Nat, s.heap.size ≤ q → A q := fun q h => by rw [hAe]; exact h
  have hbA : ¬ A b := by rw [hAe]; exact Nat.not_le.mpr hbl
  have hS : va_S A s.heap s.heap [] := va_S.rf
  have hP : va_P (dC, dI) vwCl [] s.heap := fun k q h => by simp at h
  have hD : va_D A [] := ⟨fun i j p q h => by simp at h, fun k q h => by simp at h⟩
  have hl := lv_entry ([.ref b]) (n := 4) (Nat.le_of_ble_eq_true rfl)
  rw [lg_entry_eq]
  generalize (lg_sl ([.ref b]) ++ List.replicate (4 - (lg_sl ([.ref b])).length) Slot.unset).toArray = ls at hl ⊢
  have hl : lv_has ls 4 [(0, .ref b)] := hl
  refine va_new (ci := 7) (fs := [.null, .null, .null, .null, .null, .null, .null, .null, .int 0, .int 0, .int 0]) (C := RX7) (T := TX7) (N := 11) hx hb hts0 inX7 tyX7 tyX7_ok hown (hts0 (.classLink RL 7 RX7) (tk_1 17 rfl)) (hts0 (.instantiable RX7 11) (tk_1 18 rfl)) (hts0 (.initialized RX7) (tk_1 1 rfl)) hK hP hD hS hA rfl (fun j hj => by match j, hj with | 0, _ => exact rfl | 1, _ => exact rfl | 2, _ => exact rfl | 3, _ => exact rfl | 4, _ => exact rfl | 5, _ => exact rfl | 6, _ => exact rfl | 7, _ => exact rfl | 8, _ => exact rfl | 9, _ => exact rfl | 10, _ => exact rfl | j + 11, h => exact absurd h (by omega)) (Nat.le_of_ble_eq_true rfl) (Nat.le_of_ble_eq_true rfl) dL_law_0 (fun q0 H hP hD hS => ?_)
  have hP : va_P (dC, dI) vwCl [(q0, .inr (7, [.null, .null, .null, .null, .null, .null, .null, .null, .int 0, .int 0, .int 0]))] H := hP
  have hD : va_D A [(q0, .inr (7, [.null, .null, .null, .null, .null, .null, .null, .null, .int 0, .int 0, .int 0]))] := hD
  refine lv_dup hx hb dL_law_3 rfl ?_
  have hPc := hP.sub (ws' := [(q0, .inr (7, [.null, .null, .null, .null, .null, .null, .null, .null, .int 0, .int 0, .int 0]))]) [0] rfl
  have hDc := hD.sub (ws' := [(q0, .inr (7, [.null, .null, .null, .null, .null, .null, .null, .null, .int 0, .int 0, .int 0]))]) [0] (by decide) rfl
  have hFc := va_free (wc := [(q0, .inr (7, [.null, .null, .null, .null, .null, .null, .null, .null, .int 0, .int 0, .int 0]))]) hD hS hA [0] rfl
  refine va_callv (va_runI (As := []) (rest := [.ref q0]) C (c_X7_init l dC dI cs q0 H.size) (cwI 0 hts gL_law_X7_init rfl rfl rfl (hts0 (.initialized RX7) (tk_1 1 rfl)) (hts0 (.methodLink RL 9 yX7_init) (tk_1 19 rfl)) (hts0 (.instanceMethod yX7_init) (tk_1 20 rfl)) rfl (by decide +kernel) ⟨Nat.le_of_ble_eq_true rfl, Nat.le_of_ble_eq_true rfl⟩) ⟨(fun a U g mk q => ⟨q.1, q.2.1, q.2.2.1, GE.calling q.2.2.2.1, q.2.2.2.2⟩), (fun U hU hW => ⟨rfl, by rw [hU], by rw [hU]; exact hPc, GE.warm hW G, hDc.weaken (fun _ _ _ _ => trivial)⟩)⟩ rfl rfl hl.1 rfl (lv_room (Nat.le_of_ble_eq_true rfl)) dL_law_4 ⟨Nat.le_of_ble_eq_true rfl, Nat.le_of_ble_eq_true rfl⟩) hS (fun q _ h => hFc q h) hFc (fun g t H1 locs ht hvm hw hB hz1 hk1 hS => ?_)
  obtain ⟨hP1, hD1⟩ := hB
  rw [ht] at hP1
  obtain ⟨hPj, hDj⟩ := va_join (wr := []) (w1 := (wB g C0 ++ wT cs (fun i => g (1 + i)) T0 ++ wP cs (fun i => g (12 + i)) P0 ++ wI (g 14) (g 15) (g 26) 0 ++ wT cs (fun i => g (15 + i)) T0 ++ wP cs (fun i => g (26 + i)) P0 ++ wI (g 28) (g 29) (g 40) 0 ++ wT cs (fun i => g (29 + i)) T0 ++ wP cs (fun i => g (40 + i)) P0 ++ wX cs (fun i => g (42 + i)) X0 ++ wF (g 44) (g 45) ++ wT cs (fun i => g (45 + i)) T0 ++ wW cs (fun i => g (56 + i)) L0 ++ wC cs (fun i => g (60 + i)) K0)) hP hD [0] [] rfl rfl (by decide) (by decide) hk1 hFc hP1 hD1
  generalize H1 = H at hPj hS ⊢
  subst hw
  have hP : va_P (dC, dI) vwCl (wB g C0 ++ wT cs (fun i => g (1 + i)) T0 ++ wP cs (fun i => g (12 + i)) P0 ++ wI (g 14) (g 15) (g 26) 0 ++ wT cs (fun i => g (15 + i)) T0 ++ wP cs (fun i => g (26 + i)) P0 ++ wI (g 28) (g 29) (g 40) 0 ++ wT cs (fun i => g (29 + i)) T0 ++ wP cs (fun i => g (40 + i)) P0 ++ wX cs (fun i => g (42 + i)) X0 ++ wF (g 44) (g 45) ++ wT cs (fun i => g (45 + i)) T0 ++ wW cs (fun i => g (56 + i)) L0 ++ wC cs (fun i => g (60 + i)) K0) H := hPj
  have hD : va_D A (wB g C0 ++ wT cs (fun i => g (1 + i)) T0 ++ wP cs (fun i => g (12 + i)) P0 ++ wI (g 14) (g 15) (g 26) 0 ++ wT cs (fun i => g (15 + i)) T0 ++ wP cs (fun i => g (26 + i)) P0 ++ wI (g 28) (g 29) (g 40) 0 ++ wT cs (fun i => g (29 + i)) T0 ++ wP cs (fun i => g (40 + i)) P0 ++ wX cs (fun i => g (42 + i)) X0 ++ wF (g 44) (g 45) ++ wT cs (fun i => g (45 + i)) T0 ++ wW cs (fun i => g (56 + i)) L0 ++ wC cs (fun i => g (60 + i)) K0) := hDj
  refine lv_astore_n (lv' := [(1, .ref (g 0)), (0, .ref b)]) hx hb dL_law_7 rfl hl (by decide) rfl (fun ls hl => ?_)
  refine va_new (ci := 8) (fs := [.null, .null, .null, .null, .null, .null, .null, .int 0, .long 0, .long 0, .int 0, .int 0, .int 0, .int 0, .int 0, .int 0, .null, .null, .null, .null]) (C := RX8) (T := TX8) (N := 20) hx hb hts0 inX8 tyX8 tyX8_ok hown (hts0 (.classLink RL 10 RX8) (tk_4 92 rfl)) (hts0 (.instantiable RX8 20) (tk_4 93 rfl)) (hts0 (.initialized RX8) (tk_1 9 rfl)) hK hP hD hS hA rfl (fun j hj => by match j, hj with | 0, _ => exact rfl | 1, _ => exact rfl | 2, _ => exact rfl | 3, _ => exact rfl | 4, _ => exact rfl | 5, _ => exact rfl | 6, _ => exact rfl | 7, _ => exact rfl | 8, _ => exact rfl | 9, _ => exact rfl | 10, _ => exact rfl | 11, _ => exact rfl | 12, _ => exact rfl | 13, _ => exact rfl | 14, _ => exact rfl | 15, _ => exact rfl | 16, _ => exact rfl | 17, _ => exact rfl | 18, _ => exact rfl | 19, _ => exact rfl | j + 20, h => exact absurd h (by omega)) (Nat.le_of_ble_eq_true rfl) (Nat.le_of_ble_eq_true rfl) dL_law_8 (fun q1 H hP hD hS => ?_)
  have hP : va_P (dC, dI) vwCl ((wB g C0 ++ wT cs (fun i => g (1 + i)) T0 ++ wP cs (fun i => g (12 + i)) P0 ++ wI (g 14) (g 15) (g 26) 0 ++ wT cs (fun i => g (15 + i)) T0 ++ wP cs (fun i => g (26 + i)) P0 ++ wI (g 28) (g 29) (g 40) 0 ++ wT cs (fun i => g (29 + i)) T0 ++ wP cs (fun i => g (40 + i)) P0 ++ wX cs (fun i => g (42 + i)) X0 ++ wF (g 44) (g 45) ++ wT cs (fun i => g (45 + i)) T0 ++ wW cs (fun i => g (56 + i)) L0 ++ wC cs (fun i => g (60 + i)) K0) ++ [(q1, .inr (8, [.null, .null, .null, .null, .null, .null, .null, .int 0, .long 0, .long 0, .int 0, .int 0, .int 0, .int 0, .int 0, .int 0, .null, .null, .null, .null]))]) H := hP
  have hD : va_D A ((wB g C0 ++ wT cs (fun i => g (1 + i)) T0 ++ wP cs (fun i => g (12 + i)) P0 ++ wI (g 14) (g 15) (g 26) 0 ++ wT cs (fun i => g (15 + i)) T0 ++ wP cs (fun i => g (26 + i)) P0 ++ wI (g 28) (g 29) (g 40) 0 ++ wT cs (fun i => g (29 + i)) T0 ++ wP cs (fun i => g (40 + i)) P0 ++ wX cs (fun i => g (42 + i)) X0 ++ wF (g 44) (g 45) ++ wT cs (fun i => g (45 + i)) T0 ++ wW cs (fun i => g (56 + i)) L0 ++ wC cs (fun i => g (60 + i)) K0) ++ [(q1, .inr (8, [.null, .null, .null, .null, .null, .null, .null, .int 0, .long 0, .long 0, .int 0, .int 0, .int 0, .int 0, .int 0, .int 0, .null, .null, .null, .null]))]) := hD
  refine lv_dup hx hb dL_law_11 rfl ?_
  have hPc := hP.sub (ws' := [(q1, .inr (8, [.null, .null, .null, .null, .null, .null, .null, .int 0, .long 0, .long 0, .int 0, .int 0, .int 0, .int 0, .int 0, .int 0, .null, .null, .null, .null]))]) [62] rfl
  have hDc := hD.sub (ws' := [(q1, .inr (8, [.null, .null, .null, .null, .null, .null, .null, .int 0, .long 0, .long 0, .int 0, .int 0, .int 0, .int 0, .int 0, .int 0, .null, .null, .null, .null]))]) [62] (by decide) rfl
  have hFc := va_free (wc := [(q1, .inr (8, [.null, .null, .null, .null, .null, .null, .null, .int 0, .long 0, .long 0, .int 0, .int 0, .int 0, .int 0, .int 0, .int 0, .null, .null, .null, .null]))]) hD hS hA [62] rfl
  refine va_callv (va_runI (As := []) (rest := [.ref q1]) C (c_X8_init l dC dI cs q1 H.size) (cwI 0 hts gL_law_X8_init rfl rfl rfl (hts0 (.initialized RX8) (tk_1 9 rfl)) (hts0 (.methodLink RL 12 yX8_init) (tk_4 94 rfl)) (hts0 (.instanceMethod yX8_init) (tk_4 95 rfl)) rfl (by decide +kernel) ⟨Nat.le_of_ble_eq_true rfl, Nat.le_of_ble_eq_true rfl⟩) ⟨(fun a U g mk q => ⟨q.1, q.2.1, q.2.2.1, GE.calling q.2.2.2.1, q.2.2.2.2⟩), (fun U hU hW => ⟨rfl, by rw [hU], by rw [hU]; exact hPc, GE.warm hW G, hDc.weaken (fun _ _ _ _ => trivial)⟩)⟩ rfl rfl hl.1 rfl (lv_room (Nat.le_of_ble_eq_true rfl)) dL_law_12 ⟨Nat.le_of_ble_eq_true rfl, Nat.le_of_ble_eq_true rfl⟩) hS (fun q _ h => hFc q h) hFc (fun a t H1 locs ht hvm hw hB hz1 hk1 hS => ?_)
  obtain ⟨hP1, hD1⟩ := hB
  rw [ht] at hP1
  obtain ⟨hPj, hDj⟩ := va_join (wr := (wB g C0 ++ wT cs (fun i => g (1 + i)) T0 ++ wP cs (fun i => g (12 + i)) P0 ++ wI (g 14) (g 15) (g 26) 0 ++ wT cs (fun i => g (15 + i)) T0 ++ wP cs (fun i => g (26 + i)) P0 ++ wI (g 28) (g 29) (g 40) 0 ++ wT cs (fun i => g (29 + i)) T0 ++ wP cs (fun i => g (40 + i)) P0 ++ wX cs (fun i => g (42 + i)) X0 ++ wF (g 44) (g 45) ++ wT cs (fun i => g (45 + i)) T0 ++ wW cs (fun i => g (56 + i)) L0 ++ wC cs (fun i => g (60 + i)) K0)) (w1 := (wM cs a M0)) hP hD [62] [0, 1, 2, 3, 4, 5, 6, 7, 8, 9, 10, 11, 12, 13, 14, 15, 16, 17, 18, 19, 20, 21, 22, 23, 24, 25, 26, 27, 28, 29, 30, 31, 32, 33, 34, 35, 36, 37, 38, 39, 40, 41, 42, 43, 44, 45, 46, 47, 48, 49, 50, 51, 52, 53, 54, 55, 56, 57, 58, 59, 60, 61] rfl rfl (by decide) (by decide) hk1 hFc hP1 hD1
  generalize H1 = H at hPj hS ⊢
  subst hw
  have hP : va_P (dC, dI) vwCl (wAll cs g a C0 T0 P0 0 T0 P0 0 T0 P0 X0 T0 L0 K0 M0) H := hPj
  have hD : va_D A (wAll cs g a C0 T0 P0 0 T0 P0 0 T0 P0 X0 T0 L0 K0 M0) := hDj
  refine lv_astore_n (lv' := [(2, .ref (a 0)), (1, .ref (g 0)), (0, .ref b)]) hx hb dL_law_15 rfl hl (by decide) rfl (fun ls hl => ?_)
  refine lv_iconst (v := 0) hx hb dL_law_16 (by decide) ?_
  refine lv_istore_n (lv' := [(3, .int 0), (2, .ref (a 0)), (1, .ref (g 0)), (0, .ref b)]) hx hb dL_law_17 rfl hl (by decide) rfl (fun ls hl => ?_)
  refine W.widen (k := 74) (n := 3434) (Nat.le_of_ble_eq_true rfl) (Nat.le_of_ble_eq_true rfl) ?_
  exact law_tail C G hX hbl hbA hE hA hAe hx hb hr hlocks hl hP hD hS hpure
