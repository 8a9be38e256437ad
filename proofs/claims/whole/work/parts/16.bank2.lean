theorem in_X7_best_X7 : ∀ w ∈ wsX70, w ∈ wsX7_best := by decide +kernel
def f_X7_best_20 (B : Nat → Int32) (N : Tw) (R : Tw)  : Option (Int32 × (Nat → Int32) × Tw) :=
  bn (f_X7_bad B) fun r21 =>
  some (r21.1, (r21.2, R))
set_option maxHeartbeats 4000000 in
set_option maxRecDepth 100000 in
theorem b_X7_best_20 {p : Program} {l : Launch} {e : Env} {s : State} {m : MethodId} {args : Array Value} {below : List Frame} {meth : Method} {c : Code} {Q : State → Prop} {dC : Nat → ClassId} {dI : Nat → Nat → Nat} {cs : Nat → ClassId} {A : Nat → Prop} {g : Nat → Nat} {res : Int32 × (Nat → Int32) × Tw} (C : CallFix p m c cX7_best 4 s args wsX7_best RX7) (G : GE dC dI cs s) (hA : ∀ q : Nat, s.heap.size ≤ q → A q) {N : Tw} (hR : RTi p l e ({ frames := 6, cells := 0, slots := 0, locals := 141 }) s m args below meth c cX7_best Q (dC, dI) A (fun u : (Nat → Int32) × Tw => (wB g u.1 ++ wT cs (fun i => g (1 + i)) N ++ wF (g 44) (g 45) ++ wT cs (fun i => g (45 + i)) u.2)) res) (B : Nat → Int32) (_ : Tw) (R : Tw)   (H : Heap) (locs : List Loc) (ls : Array Slot) (hl : lv_has ls 4 [(0, .ref (g 0))]) (hP : va_P (dC, dI) vwCl (wB g B ++ wT cs (fun i => g (1 + i)) N ++ wF (g 44) (g 45) ++ wT cs (fun i => g (45 + i)) R) H) (hD : va_D A (wB g B ++ wT cs (fun i => g (1 + i)) N ++ wF (g 44) (g 45) ++ wT cs (fun i => g (45 + i)) R)) (hS : va_S A s.heap H locs) (hf : f_X7_best_20 B N R = some res) : W p l e ({ frames := 6, cells := 0, slots := 0, locals := 141 }) s m args below meth c H locs 0 0 Q (F0 m 20 ls []) := by
  obtain ⟨hx, hb, hml, hown, hts⟩ := id C
  obtain ⟨hK, hN⟩ := id G
  unfold f_X7_best_20 at hf
  refine lv_aload_n hx hb dX7_best_20 rfl (lv_at hl 0 rfl) ?_
  obtain ⟨r21, hr21, hf⟩ := bn_e hf
  have hPc := hP.sub (ws' := (wB g B)) [0] rfl
  have hDc := hD.sub (ws' := (wB g B)) [0] (by decide) rfl
  have hFc := va_free (wc := (wB g B)) hD hS hA [0] rfl
  refine va_calli (va_runV (As := []) (rest := []) C (c_X7_bad l dC dI cs g H.size B r21 hr21) (cwV 0 hts gX7_best_X7_bad rfl rfl rfl (by decide +kernel) ⟨Nat.le_of_ble_eq_true rfl, Nat.le_of_ble_eq_true rfl⟩) ⟨(fun a U g mk q => ⟨q.1, q.2.1, q.2.2.1, GE.calling q.2.2.2.1, q.2.2.2.2⟩), va_recv hK hPc (ci := 7) (q0 := 0) rfl rfl, (fun U hU hW => ⟨rfl, by rw [hU], by rw [hU]; exact hPc, GE.warm hW G, hDc.weaken (fun _ _ _ _ => trivial)⟩)⟩ rfl rfl hl.1 rfl (lv_room (Nat.le_of_ble_eq_true rfl)) dX7_best_21 ⟨Nat.le_of_ble_eq_true rfl, Nat.le_of_ble_eq_true rfl⟩) hS (fun q _ h => hFc q h) hFc (fun q u t H1 locs ht hvm hw hB hz1 hk1 hS => ?_)
  obtain ⟨rfl, rfl⟩ := hw
  obtain ⟨hP1, hD1⟩ := hB
  rw [ht] at hP1
  obtain ⟨hP, hD⟩ := va_join (wr := [1, 2, 3, 4, 5, 6, 7, 8, 9, 10, 11, 12, 13, 14, 15, 16, 17, 18, 19, 20, 21, 22, 23].filterMap (fun i => ((wB g B ++ wT cs (fun i => g (1 + i)) N ++ wF (g 44) (g 45) ++ wT cs (fun i => g (45 + i)) R))[i]?)) (w1 := (wB g r21.2)) hP hD [0] [1, 2, 3, 4, 5, 6, 7, 8, 9, 10, 11, 12, 13, 14, 15, 16, 17, 18, 19, 20, 21, 22, 23] rfl rfl (by decide) (by decide) hk1 hFc hP1 hD1
  generalize H1 = H at hP hS ⊢
  have hP := hP.sub (ws' := (wB g r21.2 ++ wT cs (fun i => g (1 + i)) N ++ wF (g 44) (g 45) ++ wT cs (fun i => g (45 + i)) R)) [23, 0, 1, 2, 3, 4, 5, 6, 7, 8, 9, 10, 11, 12, 13, 14, 15, 16, 17, 18, 19, 20, 21, 22] rfl
  have hD := hD.sub (ws' := (wB g r21.2 ++ wT cs (fun i => g (1 + i)) N ++ wF (g 44) (g 45) ++ wT cs (fun i => g (45 + i)) R)) [23, 0, 1, 2, 3, 4, 5, 6, 7, 8, 9, 10, 11, 12, 13, 14, 15, 16, 17, 18, 19, 20, 21, 22] (by decide) rfl
  exact hR _ _ _ _ _ _ dX7_best_24 hf hP hD hS
def f_X7_best (x1 : Int32) (x2 : Int32) (B : Nat → Int32) (N : Tw) (R : Tw) : Option (Int32 × (Nat → Int32) × Tw) :=
  bn (f_X5_hasPerson x1 N) fun r5 =>
  if r5 = 0 then (
    f_X7_best_20 B N R
  ) else (
    bn (f_X7_within x2 (0 : Int32) (1 : Int32)) fun r14 =>
    if r14 = 0 then (
      f_X7_best_20 B N R
    ) else (
      bn (f_X1_bestOffers x1 R N) fun r34 =>
      if x2 = 0 then (
        bn (f_X5_gainOfOffers r34.1 N) fun r47 =>
        some (r47, (B, r34.2))
      ) else (
        some (r34.1, (B, r34.2))
      )
    )
  )
set_option maxHeartbeats 4000000 in
set_option maxRecDepth 100000 in
theorem c_X7_best (l : Launch) (dC : Nat → ClassId) (dI : Nat → Nat → Nat) (cs : Nat → ClassId) (g : Nat → Nat) (sz : Nat) (B : Nat → Int32) (N : Tw) (R : Tw) (x1 : Int32) (x2 : Int32) (res : Int32 × (Nat → Int32) × Tw) (hf : f_X7_best x1 x2 B N R = some res) : Met l yX7_best wsX7_best ({ frames := 6, cells := 0, slots := 0, locals := 141 }) (va_Pc [.ref (g 0), .int (x1), .int (x2)] (fun U => U.heap.size = sz ∧ va_P (dC, dI) vwCl (wB g B ++ wT cs (fun i => g (1 + i)) N ++ wF (g 44) (g 45) ++ wT cs (fun i => g (45 + i)) R) U.heap ∧ GE dC dI cs U ∧ va_D (fun _ => True) (wB g B ++ wT cs (fun i => g (1 + i)) N ++ wF (g 44) (g 45) ++ wT cs (fun i => g (45 + i)) R))) (va_Qi (fun r (u : (Nat → Int32) × Tw) => r = res.1 ∧ u = res.2) (fun u t => va_P (dC, dI) vwCl ((fun u : (Nat → Int32) × Tw => (wB g u.1 ++ wT cs (fun i => g (1 + i)) N ++ wF (g 44) (g 45) ++ wT cs (fun i => g (45 + i)) u.2)) u) t.heap ∧ va_D (va_A (wB g B ++ wT cs (fun i => g (1 + i)) N ++ wF (g 44) (g 45) ++ wT cs (fun i => g (45 + i)) R) sz) ((fun u : (Nat → Int32) × Tw => (wB g u.1 ++ wT cs (fun i => g (1 + i)) N ++ wF (g 44) (g 45) ++ wT cs (fun i => g (45 + i)) u.2)) u)) (va_A (wB g B ++ wT cs (fun i => g (1 + i)) N ++ wF (g 44) (g 45) ++ wT cs (fun i => g (45 + i)) R) sz)) 0 0 (va_A (wB g B ++ wT cs (fun i => g (1 + i)) N ++ wF (g 44) (g 45) ++ wT cs (fun i => g (45 + i)) R) sz) := by
  refine Met.ofW (cc := cX7_best) (maxL := 4) (ret := (some .int)) (by decide) rfl ?_
  intro p e s m args below meth c s₁ Bd hml hv
  obtain ⟨rfl, hsz, hP, G, hD0⟩ := hv
  have hts := atoms_spec (ws := wsX7_best) Bd.pre
  have hown : s.vm.findClass RX7 = some m.cls := findClass_of_methodNamed Bd.named
  have hlocks := Bd.notSynchronized
  have hx := Bd.exec
  have hb := Bd.bytes
  have hr := Bd.returns
  have C : CallFix p m c cX7_best 4 s _ wsX7_best RX7 := ⟨hx, hb, hml, hown, hts⟩
  obtain ⟨hK, hN⟩ := id G
  subst hsz
  have hD := hD0.self (sz := s.heap.size)
  generalize hAe : va_A (wB g B ++ wT cs (fun i => g (1 + i)) N ++ wF (g 44) (g 45) ++ wT cs (fun i => g (45 + i)) R) s.heap.size = A at hD ⊢
  have hA : ∀ q : Nat, s.heap.size ≤ q → A q := fun q h => by rw [← hAe]; exact Or.inr h
  have hS : va_S A s.heap s.heap [] := va_S.rf
  have hR : RTi p l e ({ frames := 6, cells := 0, slots := 0, locals := 141 }) s m ([.ref (g 0), .int (x1), .int (x2)] : List Value).toArray below meth c cX7_best (MQ below (va_Qi (fun r (u : (Nat → Int32) × Tw) => r = res.1 ∧ u = res.2) (fun u t => va_P (dC, dI) vwCl ((fun u : (Nat → Int32) × Tw => (wB g u.1 ++ wT cs (fun i => g (1 + i)) N ++ wF (g 44) (g 45) ++ wT cs (fun i => g (45 + i)) u.2)) u) t.heap ∧ va_D A ((fun u : (Nat → Int32) × Tw => (wB g u.1 ++ wT cs (fun i => g (1 + i)) N ++ wF (g 44) (g 45) ++ wT cs (fun i => g (45 + i)) u.2)) u)) A) ([.ref (g 0), .int (x1), .int (x2)] : List Value).toArray s 0 0 A) (dC, dI) A (fun u : (Nat → Int32) × Tw => (wB g u.1 ++ wT cs (fun i => g (1 + i)) N ++ wF (g 44) (g 45) ++ wT cs (fun i => g (45 + i)) u.2)) res := fun H locs pc ls r u dd h hP hD hS => W.iret hx hb hr (fun t ht hW => ⟨⟨r, u, rfl, by cases h; exact ⟨rfl, rfl⟩, by rw [ht]; exact hP, hD⟩, hS.F ht⟩) hS.2.2 dd
  have hl := lv_entry ([.ref (g 0), .int (x1), .int (x2)]) (n := 4) (Nat.le_of_ble_eq_true rfl)
  rw [lg_entry_eq]
  generalize (lg_sl ([.ref (g 0), .int (x1), .int (x2)]) ++ List.replicate (4 - (lg_sl ([.ref (g 0), .int (x1), .int (x2)])).length) Slot.unset).toArray = ls at hl ⊢
  have hl : lv_has ls 4 [(0, .ref (g 0)), (1, .int (x1)), (2, .int (x2))] := hl
  unfold f_X7_best at hf
  refine lv_aload_n hx hb dX7_best_0 rfl (lv_at hl 0 rfl) ?_
  refine va_get (D := (dC, dI)) (ci := 7) (v := .ref (g 1)) (C := RX7) (T := TX7) (N := 11) hx hb hts in_X7_best_X7 hown hK hP 0 rfl rfl 0 (by decide) (hts (.fieldLink RX7 10 "BackLoans" "now" "LBackLoans$Town;") (by decide +kernel)) (fun _ h9 => h9) rfl dX7_best_1 ?_
  refine lv_iload_n hx hb dX7_best_4 rfl (lv_at hl 1 rfl) ?_
  obtain ⟨r5, hr5, hf⟩ := bn_e hf
  have hPc := hP.sub (ws' := (wT cs (fun i => g (1 + i)) N)) [1, 2, 3, 4, 5, 6, 7, 8, 9, 10, 11] rfl
  refine vp_callSi (W.runV (As := [.int (x1)]) (rest := []) C (c_X5_hasPerson l dC dI cs (fun i => g (1 + i)) N x1 r5 hr5) (cwV 1 hts gX7_best_X5_hasPerson rfl rfl rfl (by decide +kernel) ⟨Nat.le_of_ble_eq_true rfl, Nat.le_of_ble_eq_true rfl⟩) ⟨(fun a U g mk q => ⟨q.1, q.2.1, GE.calling q.2.2⟩), va_recv hK hPc (ci := 5) (q0 := 0) rfl rfl, (fun U hU hW => ⟨rfl, by rw [hU]; exact hPc, GE.warm hW G⟩)⟩ rfl rfl hl.1 rfl (lv_room (Nat.le_of_ble_eq_true rfl)) dX7_best_5 ⟨Nat.le_of_ble_eq_true rfl, Nat.le_of_ble_eq_true rfl⟩) (fun qr5 hqr5 => ?_)
  obtain ⟨hqr5, hnr5⟩ := hqr5
  obtain rfl := hqr5.symm
  refine lv_if_eq (tgt := 20) hx hb dX7_best_8 (by decide) (fun c1 => ?_) (fun c1 => ?_)
  · replace hf := it_t c1 hf
    exact b_X7_best_20 C G hA hR B N R _ _ _ (lv_sub hl [0] rfl) hP hD hS hf
  · replace hf := it_f c1 hf
    refine lv_iload_n hx hb dX7_best_11 rfl (lv_at hl 2 rfl) ?_
    refine lv_iconst (v := 0) hx hb dX7_best_12 (by decide) ?_
    refine lv_iconst (v := 1) hx hb dX7_best_13 (by decide) ?_
    obtain ⟨r14, hr14, hf⟩ := bn_e hf
    have hPc := hP.sub (ws' := ([] : va_W)) [] rfl
    refine vp_callSi (W.runS (As := [.int (x2), .int ((0 : Int32)), .int ((1 : Int32))]) (rest := []) C (c_X7_within l dC dI cs x2 (0 : Int32) (1 : Int32) r14 hr14) (va_cwS 3 hts gX7_best_X7_within rfl rfl rfl (by decide +kernel) ⟨Nat.le_of_ble_eq_true rfl, Nat.le_of_ble_eq_true rfl⟩) ⟨(fun a U g mk q => ⟨q.1, q.2.1, GE.calling q.2.2⟩), (fun U hU hW => ⟨rfl, by rw [hU]; exact hPc, GE.warm hW G⟩)⟩ rfl rfl hl.1 rfl (lv_room (Nat.le_of_ble_eq_true rfl)) dX7_best_14 ⟨Nat.le_of_ble_eq_true rfl, Nat.le_of_ble_eq_true rfl⟩) (fun qr14 hqr14 => ?_)
    obtain ⟨hqr14, hnr14⟩ := hqr14
    obtain rfl := hqr14.symm
    refine lv_if_ne (tgt := 25) hx hb dX7_best_17 (by decide) (fun c2 => ?_) (fun c2 => ?_)
    · replace hf := it_f c2 hf
      refine lv_aload_n hx hb dX7_best_25 rfl (lv_at hl 0 rfl) ?_
      refine va_get (D := (dC, dI)) (ci := 7) (v := .ref (g 44)) (C := RX7) (T := TX7) (N := 11) hx hb hts in_X7_best_X7 hown hK hP 0 rfl rfl 5 (by decide) (hts (.fieldLink RX7 43 "BackLoans" "foresight" "LBackLoans$Foresight;") (by decide +kernel)) (fun _ h9 => h9) rfl dX7_best_26 ?_
      refine lv_aload_n hx hb dX7_best_29 rfl (lv_at hl 0 rfl) ?_
      refine va_get (D := (dC, dI)) (ci := 7) (v := .ref (g 1)) (C := RX7) (T := TX7) (N := 11) hx hb hts in_X7_best_X7 hown hK hP 0 rfl rfl 0 (by decide) (hts (.fieldLink RX7 10 "BackLoans" "now" "LBackLoans$Town;") (by decide +kernel)) (fun _ h9 => h9) rfl dX7_best_30 ?_
      refine lv_iload_n hx hb dX7_best_33 rfl (lv_at hl 1 rfl) ?_
      obtain ⟨r34, hr34, hf⟩ := bn_e hf
      have hPc := hP.sub (ws' := (wF (g 44) (g 45) ++ wT cs (fun i => g (45 + i)) R ++ wT cs (fun i => g (1 + i)) N)) [12, 13, 14, 15, 16, 17, 18, 19, 20, 21, 22, 23, 1, 2, 3, 4, 5, 6, 7, 8, 9, 10, 11] rfl
      have hDc := hD.sub (ws' := (wF (g 44) (g 45) ++ wT cs (fun i => g (45 + i)) R ++ wT cs (fun i => g (1 + i)) N)) [12, 13, 14, 15, 16, 17, 18, 19, 20, 21, 22, 23, 1, 2, 3, 4, 5, 6, 7, 8, 9, 10, 11] (by decide) rfl
      have hFc := va_free (wc := (wF (g 44) (g 45) ++ wT cs (fun i => g (45 + i)) R ++ wT cs (fun i => g (1 + i)) N)) hD hS hA [12, 13, 14, 15, 16, 17, 18, 19, 20, 21, 22, 23, 1, 2, 3, 4, 5, 6, 7, 8, 9, 10, 11] rfl
      refine va_calli (va_runV (As := [.ref (g 1), .int (x1)]) (rest := []) C (c_X1_bestOffers l dC dI cs (fun i => g (44 + i)) (fun i => g (45 + i)) (fun i => g (1 + i)) s.heap.size R N x1 r34 hr34) (cwV 2 hts gX7_best_X1_bestOffers rfl rfl rfl (by decide +kernel) ⟨Nat.le_of_ble_eq_true rfl, Nat.le_of_ble_eq_true rfl⟩) ⟨(fun a U g mk q => ⟨q.1, q.2.1, q.2.2.1, GE.calling q.2.2.2.1, q.2.2.2.2⟩), va_recv hK hPc (ci := 1) (q0 := 0) rfl rfl, (fun U hU hW => ⟨rfl, by rw [hU], by rw [hU]; exact hPc, GE.warm hW G, hDc.weaken (fun _ _ _ _ => trivial)⟩)⟩ rfl rfl hl.1 rfl (lv_room (Nat.le_of_ble_eq_true rfl)) dX7_best_34 ⟨Nat.le_of_ble_eq_true rfl, Nat.le_of_ble_eq_true rfl⟩) hS (fun q _ h => hFc q h) hFc (fun q u t H1 locs ht hvm hw hB hz1 hk1 hS => ?_)
      obtain ⟨rfl, rfl⟩ := hw
      obtain ⟨hP1, hD1⟩ := hB
      rw [ht] at hP1
      obtain ⟨hP, hD⟩ := va_join (wr := [0].filterMap (fun i => ((wB g B ++ wT cs (fun i => g (1 + i)) N ++ wF (g 44) (g 45) ++ wT cs (fun i => g (45 + i)) R))[i]?)) (w1 := (wF (g 44) (g 45) ++ wT cs (fun i => g (45 + i)) r34.2 ++ wT cs (fun i => g (1 + i)) N)) hP hD [12, 13, 14, 15, 16, 17, 18, 19, 20, 21, 22, 23, 1, 2, 3, 4, 5, 6, 7, 8, 9, 10, 11] [0] rfl rfl (by decide) (by decide) hk1 hFc hP1 hD1
      generalize H1 = H at hP hS ⊢
      have hP := hP.sub (ws' := (wB g B ++ wT cs (fun i => g (1 + i)) N ++ wF (g 44) (g 45) ++ wT cs (fun i => g (45 + i)) r34.2)) [0, 13, 14, 15, 16, 17, 18, 19, 20, 21, 22, 23, 1, 2, 3, 4, 5, 6, 7, 8, 9, 10, 11, 12] rfl
      have hD := hD.sub (ws' := (wB g B ++ wT cs (fun i => g (1 + i)) N ++ wF (g 44) (g 45) ++ wT cs (fun i => g (45 + i)) r34.2)) [0, 13, 14, 15, 16, 17, 18, 19, 20, 21, 22, 23, 1, 2, 3, 4, 5, 6, 7, 8, 9, 10, 11, 12] (by decide) rfl
      refine lv_istore_n (lv' := [(3, .int (r34.1)), (0, .ref (g 0)), (1, .int (x1)), (2, .int (x2))]) hx hb dX7_best_37 rfl hl (by decide) rfl (fun ls hl => ?_)
      refine lv_iload_n hx hb dX7_best_38 rfl (lv_at hl 3 rfl) ?_
      refine lv_if_ne (tgt := 53) hx hb dX7_best_39 (by decide) (fun c3 => ?_) (fun c3 => ?_)
      · replace hf := it_f c3 hf
        refine lv_iload_n hx hb dX7_best_53 rfl (lv_at hl 0 rfl) ?_
        exact hR _ _ _ _ _ _ dX7_best_54 hf hP hD hS
      · replace hf := it_t c3 hf
        refine lv_aload_n hx hb dX7_best_42 rfl (lv_at hl 1 rfl) ?_
        refine va_get (D := (dC, dI)) (ci := 7) (v := .ref (g 1)) (C := RX7) (T := TX7) (N := 11) hx hb hts in_X7_best_X7 hown hK hP 0 rfl rfl 0 (by decide) (hts (.fieldLink RX7 10 "BackLoans" "now" "LBackLoans$Town;") (by decide +kernel)) (fun _ h9 => h9) rfl dX7_best_43 ?_
        refine lv_iload_n hx hb dX7_best_46 rfl (lv_at hl 0 rfl) ?_
        obtain ⟨r47, hr47, hf⟩ := bn_e hf
        have hPc := hP.sub (ws' := (wT cs (fun i => g (1 + i)) N)) [1, 2, 3, 4, 5, 6, 7, 8, 9, 10, 11] rfl
        refine vp_callSi (W.runV (As := [.int (r34.1)]) (rest := []) C (c_X5_gainOfOffers l dC dI cs (fun i => g (1 + i)) N r34.1 r47 hr47) (cwV 1 hts gX7_best_X5_gainOfOffers rfl rfl rfl (by decide +kernel) ⟨Nat.le_of_ble_eq_true rfl, Nat.le_of_ble_eq_true rfl⟩) ⟨(fun a U g mk q => ⟨q.1, q.2.1, GE.calling q.2.2⟩), va_recv hK hPc (ci := 5) (q0 := 0) rfl rfl, (fun U hU hW => ⟨rfl, by rw [hU]; exact hPc, GE.warm hW G⟩)⟩ rfl rfl hl.1 rfl (lv_room (Nat.le_of_ble_eq_true rfl)) dX7_best_47 ⟨Nat.le_of_ble_eq_true rfl, Nat.le_of_ble_eq_true rfl⟩) (fun qr47 hqr47 => ?_)
        obtain rfl := hqr47.symm
        refine lv_goto (tgt := 54) hx hb dX7_best_50 (by decide) ?_
        exact hR _ _ _ _ _ _ dX7_best_54 hf hP hD hS
    · replace hf := it_t c2 hf
      exact b_X7_best_20 C G hA hR B N R _ _ _ (lv_sub hl [0] rfl) hP hD hS hf

theorem in_X7_joins_X5 : ∀ w ∈ wsX50, w ∈ wsX7_joins := by decide +kernel
theorem in_X7_joins_X7 : ∀ w ∈ wsX70, w ∈ wsX7_joins := by decide +kernel
def f_X7_joins_48 (x1 : Int32) (x2 : Int32) (x3 : Int32) (B : Nat → Int32) (N : Tw) (K7 : Int32 → Int32 → Int32 → Option Int32) : Option Int32 :=
  lett (x3 + 1) fun x3_48 =>
  K7 x1 x2 x3_48
set_option maxHeartbeats 4000000 in
set_option maxRecDepth 100000 in
theorem b_X7_joins_48 {p : Program} {l : Launch} {e : Env} {s : State} {m : MethodId} {args : Array Value} {below : List Frame} {meth : Method} {c : Code} {Q : State → Prop} {dC : Nat → ClassId} {dI : Nat → Nat → Nat} {cs : Nat → ClassId} {g : Nat → Nat} {res : Int32} (C : CallFix p m c cX7_joins 5 s args wsX7_joins RX7) (G : GE dC dI cs s) (hR : RPi p l e ({ frames := 2, cells := 0, slots := 0, locals := 46 }) s m args below meth c cX7_joins Q res) {B : Nat → Int32} {N : Tw} (hP : va_P (dC, dI) vwCl (wB g B ++ wT cs (fun i => g (1 + i)) N) s.heap) (x1 : Int32) (x2 : Int32) (x3 : Int32) (_ : Nat → Int32) (_ : Tw) {K7 : Int32 → Int32 → Int32 → Option Int32} (hK7 : ∀ (x1 : Int32) (x2 : Int32) (x3 : Int32) (ls : Array Slot), lv_has ls 5 [(0, .ref (g 0)), (1, .int (x1)), (2, .int (x2)), (3, .int (x3))] → K7 x1 x2 x3 = some res → W p l e ({ frames := 2, cells := 0, slots := 0, locals := 46 }) s m args below meth c s.heap [] 0 0 Q (F0 m 7 ls [])) (ls : Array Slot) (hl : lv_has ls 5 [(0, .ref (g 0)), (1, .int (x1)), (2, .int (x2)), (3, .int (x3))]) (hf : f_X7_joins_48 x1 x2 x3 B N K7 = some res) : W p l e ({ frames := 2, cells := 0, slots := 0, locals := 46 }) s m args below meth c s.heap [] 0 0 Q (F0 m 48 ls []) := by
  obtain ⟨hx, hb, hml, hown, hts⟩ := id C
  obtain ⟨hK, hN⟩ := id G
  unfold f_X7_joins_48 at hf
  obtain ⟨x3_48, ex3_48⟩ : ∃ y : Int32, y = (x3 + 1) := ⟨_, rfl⟩
  replace hf := lett_s ex3_48 hf
  refine lv_iinc (v := x3_48) (lv' := [(3, .int (x3_48)), (0, .ref (g 0)), (1, .int (x1)), (2, .int (x2))]) hx hb dX7_joins_48 hl (k := 3) rfl (by rw [ex3_48]; rfl) (by decide) rfl (fun ls hl => ?_)
  refine lv_goto (tgt := 7) hx hb dX7_joins_51 (by decide) ?_
  exact hK7 x1 x2 x3_48 _ (lv_sub hl [1, 2, 3, 0] rfl) hf
def f_X7_joins_7 (x1 : Int32) (x2 : Int32) (x3 : Int32) (B : Nat → Int32) (N : Tw) (K7 : Int32 → Int32 → Int32 → Option Int32) : Option Int32 :=
  if ((1 : Int32) <<< ((N.1 5) &&& 31)) ≤ x3 then (
    some x2
  ) else (
    bn (f_J6_bitCount_0f7a4 x3) fun r21 =>
    if x1 ≤ r21 then (
      f_X7_joins_48 x1 x2 x3 B N K7
    ) else (
      bn (f_X5_holesMakeWhole x3 N) fun r37 =>
      if r37 = 0 then (
        f_X7_joins_48 x1 x2 x3 B N K7
      ) else (
        f_X7_joins_48 r21 x3 x3 B N K7
      )
    )
  )
set_option maxHeartbeats 4000000 in
set_option maxRecDepth 100000 in
theorem b_X7_joins_7 {p : Program} {l : Launch} {e : Env} {s : State} {m : MethodId} {args : Array Value} {below : List Frame} {meth : Method} {c : Code} {Q : State → Prop} {dC : Nat → ClassId} {dI : Nat → Nat → Nat} {cs : Nat → ClassId} {g : Nat → Nat} {res : Int32} (C : CallFix p m c cX7_joins 5 s args wsX7_joins RX7) (G : GE dC dI cs s) (hR : RPi p l e ({ frames := 2, cells := 0, slots := 0, locals := 46 }) s m args below meth c cX7_joins Q res) {B : Nat → Int32} {N : Tw} (hP : va_P (dC, dI) vwCl (wB g B ++ wT cs (fun i => g (1 + i)) N) s.heap) (x1 : Int32) (x2 : Int32) (x3 : Int32) (_ : Nat → Int32) (_ : Tw) {K7 : Int32 → Int32 → Int32 → Option Int32} (hK7 : ∀ (x1 : Int32) (x2 : Int32) (x3 : Int32) (ls : Array Slot), lv_has ls 5 [(0, .ref (g 0)), (1, .int (x1)), (2, .int (x2)), (3, .int (x3))] → K7 x1 x2 x3 = some res → W p l e ({ frames := 2, cells := 0, slots := 0, locals := 46 }) s m args below meth c s.heap [] 0 0 Q (F0 m 7 ls [])) (ls : Array Slot) (hl : lv_has ls 5 [(0, .ref (g 0)), (1, .int (x1)), (2, .int (x2)), (3, .int (x3))]) (hf : f_X7_joins_7 x1 x2 x3 B N K7 = some res) : W p l e ({ frames := 2, cells := 0, slots := 0, locals := 46 }) s m args below meth c s.heap [] 0 0 Q (F0 m 7 ls []) := by
  obtain ⟨hx, hb, hml, hown, hts⟩ := id C
  obtain ⟨hK, hN⟩ := id G
  unfold f_X7_joins_7 at hf
  refine lv_iload_n hx hb dX7_joins_7 rfl (lv_at hl 3 rfl) ?_
  refine lv_iconst (v := 1) hx hb dX7_joins_8 (by decide) ?_
  refine lv_aload_n hx hb dX7_joins_9 rfl (lv_at hl 0 rfl) ?_
  refine va_get (D := (dC, dI)) (ci := 7) (v := .ref (g 1)) (C := RX7) (T := TX7) (N := 11) hx hb hts in_X7_joins_X7 hown hK hP 0 rfl rfl 0 (by decide) (hts (.fieldLink RX7 10 "BackLoans" "now" "LBackLoans$Town;") (by decide +kernel)) (fun _ h9 => h9) rfl dX7_joins_10 ?_
  refine va_get (D := (dC, dI)) (ci := 5) (v := .int ((N.1 5))) (C := RX5) (T := TX5) (N := 17) hx hb hts in_X7_joins_X5 hown hK hP 1 rfl rfl 5 (by decide) (hts (.fieldLink RX7 91 "BackLoans$Town" "loans" "I") (by decide +kernel)) (fun _ h9 => h9) rfl dX7_joins_13 ?_
  refine lv_ishl hx hb dX7_joins_16 ?_
  refine lv_icmp_ge (tgt := 54) hx hb dX7_joins_17 (by decide) (fun c1 => ?_) (fun c1 => ?_)
  · replace hf := it_t c1 hf
    refine lv_iload_n hx hb dX7_joins_54 rfl (lv_at hl 2 rfl) ?_
    exact hR _ _ _ dX7_joins_55 hf
  · replace hf := it_f c1 hf
    refine lv_iload_n hx hb dX7_joins_20 rfl (lv_at hl 3 rfl) ?_
    obtain ⟨r21, hr21, hf⟩ := bn_e hf
    have hPc := hP.sub (ws' := ([] : va_W)) [] rfl
    refine vp_callSi (W.runS (As := [.int (x3)]) (rest := []) C (c_J6_bitCount_0f7a4 l dC dI cs x3 r21 hr21) (va_cwS 1 hts gX7_joins_J6_bitCount_0f7a4 rfl rfl rfl (by decide +kernel) ⟨Nat.le_of_ble_eq_true rfl, Nat.le_of_ble_eq_true rfl⟩) ⟨(fun a U g mk q => ⟨q.1, q.2.1, GE.calling q.2.2⟩), (fun U hU hW => ⟨rfl, by rw [hU]; exact hPc, GE.warm hW G⟩)⟩ rfl rfl hl.1 rfl (lv_room (Nat.le_of_ble_eq_true rfl)) dX7_joins_21 ⟨Nat.le_of_ble_eq_true rfl, Nat.le_of_ble_eq_true rfl⟩) (fun qr21 hqr21 => ?_)
    obtain rfl := hqr21.symm
    refine lv_istore (lv' := [(4, .int (r21)), (0, .ref (g 0)), (1, .int (x1)), (2, .int (x2)), (3, .int (x3))]) hx hb dX7_joins_24 hl (by decide) rfl (fun ls hl => ?_)
    refine lv_iload hx hb dX7_joins_26 (lv_at hl 0 rfl) ?_
    refine lv_iload_n hx hb dX7_joins_28 rfl (lv_at hl 2 rfl) ?_
    refine lv_icmp_ge (tgt := 48) hx hb dX7_joins_29 (by decide) (fun c2 => ?_) (fun c2 => ?_)
    · replace hf := it_t c2 hf
      exact b_X7_joins_48 C G hR hP x1 x2 x3 B N hK7 _ (lv_sub hl [1, 2, 3, 4] rfl) hf
    · replace hf := it_f c2 hf
      refine lv_aload_n hx hb dX7_joins_32 rfl (lv_at hl 1 rfl) ?_
      refine va_get (D := (dC, dI)) (ci := 7) (v := .ref (g 1)) (C := RX7) (T := TX7) (N := 11) hx hb hts in_X7_joins_X7 hown hK hP 0 rfl rfl 0 (by decide) (hts (.fieldLink RX7 10 "BackLoans" "now" "LBackLoans$Town;") (by decide +kernel)) (fun _ h9 => h9) rfl dX7_joins_33 ?_
      refine lv_iload_n hx hb dX7_joins_36 rfl (lv_at hl 4 rfl) ?_
      obtain ⟨r37, hr37, hf⟩ := bn_e hf
      have hPc := hP.sub (ws' := (wT cs (fun i => g (1 + i)) N)) [1, 2, 3, 4, 5, 6, 7, 8, 9, 10, 11] rfl
      refine vp_callSi (W.runV (As := [.int (x3)]) (rest := []) C (c_X5_holesMakeWhole l dC dI cs (fun i => g (1 + i)) N x3 r37 hr37) (cwV 1 hts gX7_joins_X5_holesMakeWhole rfl rfl rfl (by decide +kernel) ⟨Nat.le_of_ble_eq_true rfl, Nat.le_of_ble_eq_true rfl⟩) ⟨(fun a U g mk q => ⟨q.1, q.2.1, GE.calling q.2.2⟩), va_recv hK hPc (ci := 5) (q0 := 0) rfl rfl, (fun U hU hW => ⟨rfl, by rw [hU]; exact hPc, GE.warm hW G⟩)⟩ rfl rfl hl.1 rfl (lv_room (Nat.le_of_ble_eq_true rfl)) dX7_joins_37 ⟨Nat.le_of_ble_eq_true rfl, Nat.le_of_ble_eq_true rfl⟩) (fun qr37 hqr37 => ?_)
      obtain ⟨hqr37, hnr37⟩ := hqr37
      obtain rfl := hqr37.symm
      refine lv_if_eq (tgt := 48) hx hb dX7_joins_40 (by decide) (fun c3 => ?_) (fun c3 => ?_)
      · replace hf := it_t c3 hf
        exact b_X7_joins_48 C G hR hP x1 x2 x3 B N hK7 _ (lv_sub hl [1, 2, 3, 4] rfl) hf
      · replace hf := it_f c3 hf
        refine lv_iload hx hb dX7_joins_43 (lv_at hl 0 rfl) ?_
        refine lv_istore_n (lv' := [(1, .int (r21)), (4, .int (r21)), (0, .ref (g 0)), (2, .int (x2)), (3, .int (x3))]) hx hb dX7_joins_45 rfl hl (by decide) rfl (fun ls hl => ?_)
        refine lv_iload_n hx hb dX7_joins_46 rfl (lv_at hl 4 rfl) ?_
        refine lv_istore_n (lv' := [(2, .int (x3)), (1, .int (r21)), (4, .int (r21)), (0, .ref (g 0)), (3, .int (x3))]) hx hb dX7_joins_47 rfl hl (by decide) rfl (fun ls hl => ?_)
        exact b_X7_joins_48 C G hR hP r21 x3 x3 B N hK7 _ (lv_sub hl [3, 1, 0, 4] rfl) hf
def l_X7_joins_7 (B : Nat → Int32) (N : Tw)  (n : Nat) (x1 : Int32) (x2 : Int32) (x3 : Int32) : Option Int32 := itr (fun (k : Int32 × Int32 × Int32 → Option Int32) (z : Int32 × Int32 × Int32) => f_X7_joins_7 z.1 z.2.1 z.2.2 B N (fun x1 x2 x3 => k (x1, x2, x3))) n (x1, x2, x3)
set_option maxHeartbeats 4000000 in
set_option maxRecDepth 100000 in
theorem w_X7_joins_7 {p : Program} {l : Launch} {e : Env} {s : State} {m : MethodId} {args : Array Value} {below : List Frame} {meth : Method} {c : Code} {Q : State → Prop} {dC : Nat → ClassId} {dI : Nat → Nat → Nat} {cs : Nat → ClassId} {g : Nat → Nat} {res : Int32} (C : CallFix p m c cX7_joins 5 s args wsX7_joins RX7) (G : GE dC dI cs s) (hR : RPi p l e ({ frames := 2, cells := 0, slots := 0, locals := 46 }) s m args below meth c cX7_joins Q res) {B : Nat → Int32} {N : Tw} (hP : va_P (dC, dI) vwCl (wB g B ++ wT cs (fun i => g (1 + i)) N) s.heap)  (_ : Nat → Int32) (_ : Tw)   : ∀ (n : Nat) (x1 : Int32) (x2 : Int32) (x3 : Int32) (ls : Array Slot), lv_has ls 5 [(0, .ref (g 0)), (1, .int (x1)), (2, .int (x2)), (3, .int (x3))] → l_X7_joins_7 B N n x1 x2 x3 = some res → W p l e ({ frames := 2, cells := 0, slots := 0, locals := 46 }) s m args below meth c s.heap [] 0 0 Q (F0 m 7 ls []) := by
  intro n
  induction n with
  | zero => intro x1 x2 x3 ls hl hf; exact absurd hf (by simp [l_X7_joins_7, itr])
  | succ n ih => intro x1 x2 x3 ls hl hf; exact b_X7_joins_7 C G hR hP x1 x2 x3 B N (K7 := fun x1 x2 x3 => l_X7_joins_7 B N n x1 x2 x3) (fun x1 x2 x3 ls hl hf => ih x1 x2 x3 ls hl hf) ls hl hf
def f_X7_joins  (B : Nat → Int32) (N : Tw) : Option Int32 :=
  lett (9 : Int32) fun x1_2 =>
  lett (-1 : Int32) fun x2_4 =>
  lett (1 : Int32) fun x3_6 =>
  l_X7_joins_7 B N FU x1_2 x2_4 x3_6
set_option maxHeartbeats 4000000 in
set_option maxRecDepth 100000 in
theorem c_X7_joins (l : Launch) (dC : Nat → ClassId) (dI : Nat → Nat → Nat) (cs : Nat → ClassId) (g : Nat → Nat) (B : Nat → Int32) (N : Tw)  (res : Int32) (hf : f_X7_joins B N = some res) : Met l yX7_joins wsX7_joins ({ frames := 2, cells := 0, slots := 0, locals := 46 }) (va_Pc [.ref (g 0)] (fun U => va_P (dC, dI) vwCl (wB g B ++ wT cs (fun i => g (1 + i)) N) U.heap ∧ GE dC dI cs U)) (vp_Si (fun r => r = res)) 0 0 (fun _ => False) := by
  refine Met.ofW (cc := cX7_joins) (maxL := 5) (ret := (some .int)) (by decide) rfl ?_
  intro p e s m args below meth c s₁ Bd hml hv
  obtain ⟨rfl, hP, G⟩ := hv
  have hts := atoms_spec (ws := wsX7_joins) Bd.pre
  have hown : s.vm.findClass RX7 = some m.cls := findClass_of_methodNamed Bd.named
  have hlocks := Bd.notSynchronized
  have hx := Bd.exec
  have hb := Bd.bytes
  have hr := Bd.returns
  have C : CallFix p m c cX7_joins 5 s _ wsX7_joins RX7 := ⟨hx, hb, hml, hown, hts⟩
  obtain ⟨hK, hN⟩ := id G
  have hR : RPi p l e ({ frames := 2, cells := 0, slots := 0, locals := 46 }) s m ([.ref (g 0)] : List Value).toArray below meth c cX7_joins (MQ below (vp_Si (fun r => r = res)) ([.ref (g 0)] : List Value).toArray s 0 0 (fun _ => False)) res := fun pc ls r dd h => W.iret hx hb hr (fun t ht hW => ⟨r, rfl, Option.some.inj h, ht⟩) (fun q hq => by cases hq) dd
  have hl := lv_entry ([.ref (g 0)]) (n := 5) (Nat.le_of_ble_eq_true rfl)
  rw [lg_entry_eq]
  generalize (lg_sl ([.ref (g 0)]) ++ List.replicate (5 - (lg_sl ([.ref (g 0)])).length) Slot.unset).toArray = ls at hl ⊢
  have hl : lv_has ls 5 [(0, .ref (g 0))] := hl
  unfold f_X7_joins at hf
  refine lv_bipush (v := 9) hx hb dX7_joins_0 (by decide) ?_
  refine lv_topi (fun x1_2 ex1_2 => ?_)
  replace hf := lett_s ex1_2 hf
  refine lv_istore_n (lv' := [(1, .int (x1_2)), (0, .ref (g 0))]) hx hb dX7_joins_2 rfl hl (by decide) rfl (fun ls hl => ?_)
  refine lv_iconst (v := -1) hx hb dX7_joins_3 (by decide) ?_
  refine lv_topi (fun x2_4 ex2_4 => ?_)
  replace hf := lett_s ex2_4 hf
  refine lv_istore_n (lv' := [(2, .int (x2_4)), (1, .int (x1_2)), (0, .ref (g 0))]) hx hb dX7_joins_4 rfl hl (by decide) rfl (fun ls hl => ?_)
  refine lv_iconst (v := 1) hx hb dX7_joins_5 (by decide) ?_
  refine lv_topi (fun x3_6 ex3_6 => ?_)
  replace hf := lett_s ex3_6 hf
  refine lv_istore_n (lv' := [(3, .int (x3_6)), (2, .int (x2_4)), (1, .int (x1_2)), (0, .ref (g 0))]) hx hb dX7_joins_6 rfl hl (by decide) rfl (fun ls hl => ?_)
  exact w_X7_joins_7 C G hR hP B N FU x1_2 x2_4 x3_6 _ (lv_sub hl [3, 2, 1, 0] rfl) hf

theorem in_X7_run_X5 : ∀ w ∈ wsX50, w ∈ wsX7_run := by decide +kernel
theorem in_X7_run_X7 : ∀ w ∈ wsX70, w ∈ wsX7_run := by decide +kernel
def f_X7_run (x1 : Int32) (B : Nat → Int32) (N : Tw) : Option (Int32 × (Nat → Int32)) :=
  if x1 = 0 then (
    bn (f_X5_paidInOrder N) fun r36 =>
    some (r36, B)
  ) else (
  if x1 = 1 then (
    bn (f_X5_leftInOrder N) fun r44 =>
    some (r44, B)
  ) else (
  if x1 = 2 then (
    bn (f_X5_paidInBestOrder N) fun r52 =>
    some (r52, B)
  ) else (
  if x1 = 3 then (
    bn (f_X5_wantedByAll N) fun r61 =>
    some ((if (0 : Int32) < (r61 - (N.1 0)) then (r61 - (N.1 0)) else (0 : Int32)), B)
  ) else (
  bn (f_X7_bad B) fun r77 =>
  some (r77.1, r77.2)
  ))))
set_option maxHeartbeats 4000000 in
set_option maxRecDepth 100000 in
theorem c_X7_run (l : Launch) (dC : Nat → ClassId) (dI : Nat → Nat → Nat) (cs : Nat → ClassId) (g : Nat → Nat) (sz : Nat) (B : Nat → Int32) (N : Tw) (x1 : Int32) (res : Int32 × (Nat → Int32)) (hf : f_X7_run x1 B N = some res) : Met l yX7_run wsX7_run ({ frames := 5, cells := 0, slots := 0, locals := 113 }) (va_Pc [.ref (g 0), .int (x1)] (fun U => U.heap.size = sz ∧ va_P (dC, dI) vwCl (wB g B ++ wT cs (fun i => g (1 + i)) N) U.heap ∧ GE dC dI cs U ∧ va_D (fun _ => True) (wB g B ++ wT cs (fun i => g (1 + i)) N))) (va_Qi (fun r (u : (Nat → Int32)) => r = res.1 ∧ u = res.2) (fun u t => va_P (dC, dI) vwCl ((fun u : (Nat → Int32) => (wB g u ++ wT cs (fun i => g (1 + i)) N)) u) t.heap ∧ va_D (va_A (wB g B ++ wT cs (fun i => g (1 + i)) N) sz) ((fun u : (Nat → Int32) => (wB g u ++ wT cs (fun i => g (1 + i)) N)) u)) (va_A (wB g B ++ wT cs (fun i => g (1 + i)) N) sz)) 0 0 (va_A (wB g B ++ wT cs (fun i => g (1 + i)) N) sz) := by
  refine Met.ofW (cc := cX7_run) (maxL := 2) (ret := (some .int)) (by decide) rfl ?_
  intro p e s m args below meth c s₁ Bd hml hv
  obtain ⟨rfl, hsz, hP, G, hD0⟩ := hv
  have hts := atoms_spec (ws := wsX7_run) Bd.pre
  have hown : s.vm.findClass RX7 = some m.cls := findClass_of_methodNamed Bd.named
  have hlocks := Bd.notSynchronized
  have hx := Bd.exec
  have hb := Bd.bytes
  have hr := Bd.returns
  have C : CallFix p m c cX7_run 2 s _ wsX7_run RX7 := ⟨hx, hb, hml, hown, hts⟩
  obtain ⟨hK, hN⟩ := id G
  subst hsz
  have hD := hD0.self (sz := s.heap.size)
  generalize hAe : va_A (wB g B ++ wT cs (fun i => g (1 + i)) N) s.heap.size = A at hD ⊢
  have hA : ∀ q : Nat, s.heap.size ≤ q → A q := fun q h => by rw [← hAe]; exact Or.inr h
  have hS : va_S A s.heap s.heap [] := va_S.rf
  have hR : RTi p l e ({ frames := 5, cells := 0, slots := 0, locals := 113 }) s m ([.ref (g 0), .int (x1)] : List Value).toArray below meth c cX7_run (MQ below (va_Qi (fun r (u : (Nat → Int32)) => r = res.1 ∧ u = res.2) (fun u t => va_P (dC, dI) vwCl ((fun u : (Nat → Int32) => (wB g u ++ wT cs (fun i => g (1 + i)) N)) u) t.heap ∧ va_D A ((fun u : (Nat → Int32) => (wB g u ++ wT cs (fun i => g (1 + i)) N)) u)) A) ([.ref (g 0), .int (x1)] : List Value).toArray s 0 0 A) (dC, dI) A (fun u : (Nat → Int32) => (wB g u ++ wT cs (fun i => g (1 + i)) N)) res := fun H locs pc ls r u dd h hP hD hS => W.iret hx hb hr (fun t ht hW => ⟨⟨r, u, rfl, by cases h; exact ⟨rfl, rfl⟩, by rw [ht]; exact hP, hD⟩, hS.F ht⟩) hS.2.2 dd
  have hl := lv_entry ([.ref (g 0), .int (x1)]) (n := 2) (Nat.le_of_ble_eq_true rfl)
  rw [lg_entry_eq]
  generalize (lg_sl ([.ref (g 0), .int (x1)]) ++ List.replicate (2 - (lg_sl ([.ref (g 0), .int (x1)])).length) Slot.unset).toArray = ls at hl ⊢
  have hl : lv_has ls 2 [(0, .ref (g 0)), (1, .int (x1))] := hl
  unfold f_X7_run at hf
  refine lv_iload_n hx hb dX7_run_0 rfl (lv_at hl 1 rfl) ?_
  by_cases c1 : x1 = 0
  · replace hf := it_t c1 hf
    refine lv_tableIn (tgt := 32) hx hb dX7_run_1 (by rw [c1]; decide) (by rw [c1]; decide) (by rw [c1]; rfl) (by decide) ?_
    refine lv_aload_n hx hb dX7_run_32 rfl (lv_at hl 0 rfl) ?_
    refine va_get (D := (dC, dI)) (ci := 7) (v := .ref (g 1)) (C := RX7) (T := TX7) (N := 11) hx hb hts in_X7_run_X7 hown hK hP 0 rfl rfl 0 (by decide) (hts (.fieldLink RX7 10 "BackLoans" "now" "LBackLoans$Town;") (by decide +kernel)) (fun _ h9 => h9) rfl dX7_run_33 ?_
    obtain ⟨r36, hr36, hf⟩ := bn_e hf
    have hPc := hP.sub (ws' := (wT cs (fun i => g (1 + i)) N)) [1, 2, 3, 4, 5, 6, 7, 8, 9, 10, 11] rfl
    refine vp_callSi (W.runV (As := []) (rest := []) C (c_X5_paidInOrder l dC dI cs (fun i => g (1 + i)) N r36 hr36) (cwV 0 hts gX7_run_X5_paidInOrder rfl rfl rfl (by decide +kernel) ⟨Nat.le_of_ble_eq_true rfl, Nat.le_of_ble_eq_true rfl⟩) ⟨(fun a U g mk q => ⟨q.1, q.2.1, GE.calling q.2.2⟩), va_recv hK hPc (ci := 5) (q0 := 0) rfl rfl, (fun U hU hW => ⟨rfl, by rw [hU]; exact hPc, GE.warm hW G⟩)⟩ rfl rfl hl.1 rfl (lv_room (Nat.le_of_ble_eq_true rfl)) dX7_run_36 ⟨Nat.le_of_ble_eq_true rfl, Nat.le_of_ble_eq_true rfl⟩) (fun qr36 hqr36 => ?_)
    obtain rfl := hqr36.symm
    exact hR _ _ _ _ _ _ dX7_run_39 hf hP hD hS
  replace hf := it_f c1 hf
  by_cases c2 : x1 = 1
  · replace hf := it_t c2 hf
    refine lv_tableIn (tgt := 40) hx hb dX7_run_1 (by rw [c2]; decide) (by rw [c2]; decide) (by rw [c2]; rfl) (by decide) ?_
    refine lv_aload_n hx hb dX7_run_40 rfl (lv_at hl 0 rfl) ?_
    refine va_get (D := (dC, dI)) (ci := 7) (v := .ref (g 1)) (C := RX7) (T := TX7) (N := 11) hx hb hts in_X7_run_X7 hown hK hP 0 rfl rfl 0 (by decide) (hts (.fieldLink RX7 10 "BackLoans" "now" "LBackLoans$Town;") (by decide +kernel)) (fun _ h9 => h9) rfl dX7_run_41 ?_
    obtain ⟨r44, hr44, hf⟩ := bn_e hf
    have hPc := hP.sub (ws' := (wT cs (fun i => g (1 + i)) N)) [1, 2, 3, 4, 5, 6, 7, 8, 9, 10, 11] rfl
    refine vp_callSi (W.runV (As := []) (rest := []) C (c_X5_leftInOrder l dC dI cs (fun i => g (1 + i)) N r44 hr44) (cwV 0 hts gX7_run_X5_leftInOrder rfl rfl rfl (by decide +kernel) ⟨Nat.le_of_ble_eq_true rfl, Nat.le_of_ble_eq_true rfl⟩) ⟨(fun a U g mk q => ⟨q.1, q.2.1, GE.calling q.2.2⟩), va_recv hK hPc (ci := 5) (q0 := 0) rfl rfl, (fun U hU hW => ⟨rfl, by rw [hU]; exact hPc, GE.warm hW G⟩)⟩ rfl rfl hl.1 rfl (lv_room (Nat.le_of_ble_eq_true rfl)) dX7_run_44 ⟨Nat.le_of_ble_eq_true rfl, Nat.le_of_ble_eq_true rfl⟩) (fun qr44 hqr44 => ?_)
    obtain rfl := hqr44.symm
    exact hR _ _ _ _ _ _ dX7_run_47 hf hP hD hS
  replace hf := it_f c2 hf
  by_cases c3 : x1 = 2
  · replace hf := it_t c3 hf
    refine lv_tableIn (tgt := 48) hx hb dX7_run_1 (by rw [c3]; decide) (by rw [c3]; decide) (by rw [c3]; rfl) (by decide) ?_
    refine lv_aload_n hx hb dX7_run_48 rfl (lv_at hl 0 rfl) ?_
    refine va_get (D := (dC, dI)) (ci := 7) (v := .ref (g 1)) (C := RX7) (T := TX7) (N := 11) hx hb hts in_X7_run_X7 hown hK hP 0 rfl rfl 0 (by decide) (hts (.fieldLink RX7 10 "BackLoans" "now" "LBackLoans$Town;") (by decide +kernel)) (fun _ h9 => h9) rfl dX7_run_49 ?_
    obtain ⟨r52, hr52, hf⟩ := bn_e hf
    have hPc := hP.sub (ws' := (wT cs (fun i => g (1 + i)) N)) [1, 2, 3, 4, 5, 6, 7, 8, 9, 10, 11] rfl
    refine vp_callSi (W.runV (As := []) (rest := []) C (c_X5_paidInBestOrder l dC dI cs (fun i => g (1 + i)) N r52 hr52) (cwV 0 hts gX7_run_X5_paidInBestOrder rfl rfl rfl (by decide +kernel) ⟨Nat.le_of_ble_eq_true rfl, Nat.le_of_ble_eq_true rfl⟩) ⟨(fun a U g mk q => ⟨q.1, q.2.1, GE.calling q.2.2⟩), va_recv hK hPc (ci := 5) (q0 := 0) rfl rfl, (fun U hU hW => ⟨rfl, by rw [hU]; exact hPc, GE.warm hW G⟩)⟩ rfl rfl hl.1 rfl (lv_room (Nat.le_of_ble_eq_true rfl)) dX7_run_52 ⟨Nat.le_of_ble_eq_true rfl, Nat.le_of_ble_eq_true rfl⟩) (fun qr52 hqr52 => ?_)
    obtain rfl := hqr52.symm
    exact hR _ _ _ _ _ _ dX7_run_55 hf hP hD hS
  replace hf := it_f c3 hf
  by_cases c4 : x1 = 3
  · replace hf := it_t c4 hf
    refine lv_tableIn (tgt := 56) hx hb dX7_run_1 (by rw [c4]; decide) (by rw [c4]; decide) (by rw [c4]; rfl) (by decide) ?_
    refine lv_iconst (v := 0) hx hb dX7_run_56 (by decide) ?_
    refine lv_aload_n hx hb dX7_run_57 rfl (lv_at hl 0 rfl) ?_
    refine va_get (D := (dC, dI)) (ci := 7) (v := .ref (g 1)) (C := RX7) (T := TX7) (N := 11) hx hb hts in_X7_run_X7 hown hK hP 0 rfl rfl 0 (by decide) (hts (.fieldLink RX7 10 "BackLoans" "now" "LBackLoans$Town;") (by decide +kernel)) (fun _ h9 => h9) rfl dX7_run_58 ?_
    obtain ⟨r61, hr61, hf⟩ := bn_e hf
    have hPc := hP.sub (ws' := (wT cs (fun i => g (1 + i)) N)) [1, 2, 3, 4, 5, 6, 7, 8, 9, 10, 11] rfl
    refine vp_callSi (W.runV (As := []) (rest := [.int ((0 : Int32))]) C (c_X5_wantedByAll l dC dI cs (fun i => g (1 + i)) N r61 hr61) (cwV 0 hts gX7_run_X5_wantedByAll rfl rfl rfl (by decide +kernel) ⟨Nat.le_of_ble_eq_true rfl, Nat.le_of_ble_eq_true rfl⟩) ⟨(fun a U g mk q => ⟨q.1, q.2.1, GE.calling q.2.2⟩), va_recv hK hPc (ci := 5) (q0 := 0) rfl rfl, (fun U hU hW => ⟨rfl, by rw [hU]; exact hPc, GE.warm hW G⟩)⟩ rfl rfl hl.1 rfl (lv_room (Nat.le_of_ble_eq_true rfl)) dX7_run_61 ⟨Nat.le_of_ble_eq_true rfl, Nat.le_of_ble_eq_true rfl⟩) (fun qr61 hqr61 => ?_)
    obtain rfl := hqr61.symm
    refine lv_aload_n hx hb dX7_run_64 rfl (lv_at hl 0 rfl) ?_
    refine va_get (D := (dC, dI)) (ci := 7) (v := .ref (g 1)) (C := RX7) (T := TX7) (N := 11) hx hb hts in_X7_run_X7 hown hK hP 0 rfl rfl 0 (by decide) (hts (.fieldLink RX7 10 "BackLoans" "now" "LBackLoans$Town;") (by decide +kernel)) (fun _ h9 => h9) rfl dX7_run_65 ?_
    refine va_get (D := (dC, dI)) (ci := 5) (v := .int ((N.1 0))) (C := RX5) (T := TX5) (N := 17) hx hb hts in_X7_run_X5 hown hK hP 1 rfl rfl 0 (by decide) (hts (.fieldLink RX7 70 "BackLoans$Town" "chest" "I") (by decide +kernel)) (fun _ h9 => h9) rfl dX7_run_68 ?_
    refine lv_isub hx hb dX7_run_71 ?_
    refine va_mmax hx hb (hml.trans hl.1.symm) hown (hts (.methodLink RX7 230 Lib.Math.max.name) (by decide +kernel)) (hts (.static Lib.Math.max.name) (by decide +kernel)) (hts (.initialized "java/lang/Math") (by decide +kernel)) (hts (.code Lib.Math.max.name Lib.Math.max.code 2 (some .int)) (by decide +kernel)) (Nat.le_of_ble_eq_true rfl) (Nat.le_of_ble_eq_true rfl) (Nat.le_of_ble_eq_true rfl) (Nat.le_of_ble_eq_true rfl) dX7_run_72 ?_
    exact hR _ _ _ _ _ _ dX7_run_75 hf hP hD hS
  replace hf := it_f c4 hf
  have nc1 := lv_neT (a := 0) c1 (by decide)
  have nc2 := lv_neT (a := 1) c2 (by decide)
  have nc3 := lv_neT (a := 2) c3 (by decide)
  have nc4 := lv_neT (a := 3) c4 (by decide)
  refine lv_tableOut (tgt := 76) hx hb dX7_run_1 (by omega) (by decide) ?_
  refine lv_aload_n hx hb dX7_run_76 rfl (lv_at hl 0 rfl) ?_
  obtain ⟨r77, hr77, hf⟩ := bn_e hf
  have hPc := hP.sub (ws' := (wB g B)) [0] rfl
  have hDc := hD.sub (ws' := (wB g B)) [0] (by decide) rfl
  have hFc := va_free (wc := (wB g B)) hD hS hA [0] rfl
  refine va_calli (va_runV (As := []) (rest := []) C (c_X7_bad l dC dI cs g s.heap.size B r77 hr77) (cwV 0 hts gX7_run_X7_bad rfl rfl rfl (by decide +kernel) ⟨Nat.le_of_ble_eq_true rfl, Nat.le_of_ble_eq_true rfl⟩) ⟨(fun a U g mk q => ⟨q.1, q.2.1, q.2.2.1, GE.calling q.2.2.2.1, q.2.2.2.2⟩), va_recv hK hPc (ci := 7) (q0 := 0) rfl rfl, (fun U hU hW => ⟨rfl, by rw [hU], by rw [hU]; exact hPc, GE.warm hW G, hDc.weaken (fun _ _ _ _ => trivial)⟩)⟩ rfl rfl hl.1 rfl (lv_room (Nat.le_of_ble_eq_true rfl)) dX7_run_77 ⟨Nat.le_of_ble_eq_true rfl, Nat.le_of_ble_eq_true rfl⟩) hS (fun q _ h => hFc q h) hFc (fun q u t H1 locs ht hvm hw hB hz1 hk1 hS => ?_)
  obtain ⟨rfl, rfl⟩ := hw
  obtain ⟨hP1, hD1⟩ := hB
  rw [ht] at hP1
  obtain ⟨hP, hD⟩ := va_join (wr := [1, 2, 3, 4, 5, 6, 7, 8, 9, 10, 11].filterMap (fun i => ((wB g B ++ wT cs (fun i => g (1 + i)) N))[i]?)) (w1 := (wB g r77.2)) hP hD [0] [1, 2, 3, 4, 5, 6, 7, 8, 9, 10, 11] rfl rfl (by decide) (by decide) hk1 hFc hP1 hD1
  generalize H1 = H at hP hS ⊢
  have hP := hP.sub (ws' := (wB g r77.2 ++ wT cs (fun i => g (1 + i)) N)) [11, 0, 1, 2, 3, 4, 5, 6, 7, 8, 9, 10] rfl
  have hD := hD.sub (ws' := (wB g r77.2 ++ wT cs (fun i => g (1 + i)) N)) [11, 0, 1, 2, 3, 4, 5, 6, 7, 8, 9, 10] (by decide) rfl
  exact hR _ _ _ _ _ _ dX7_run_80 hf hP hD hS

theorem in_X7_will_X5 : ∀ w ∈ wsX50, w ∈ wsX7_will := by decide +kernel
theorem in_X7_will_X6 : ∀ w ∈ wsX60, w ∈ wsX7_will := by decide +kernel
theorem in_X7_will_X7 : ∀ w ∈ wsX70, w ∈ wsX7_will := by decide +kernel
def f_X7_will_48 (x1 : Int32) (x2 : Int32) (x3 : Int32) (s0 : Int32) (B : Nat → Int32) (N : Tw) (L : Wl)  : Option (Int32 × (Nat → Int32) × Wl) :=
  if s0 = 0 then (
    bn (f_X7_bad B) fun r56 =>
    some ((-10 : Int32), (r56.2, L))
  ) else (
    if x2 = 0 then (
      some ((-1 : Int32), (B, L))
    ) else (
      bn (f_X7_hasBit x2 x1) fun r69 =>
      if r69 = 0 then (
        bn (f_X6_share x1 x2 L N) fun r87 =>
        if x3 = (-1 : Int32) then (
          some ((r87.1 0), (B, r87))
        ) else (
          if (r87.1 1) ≤ x3 then (
            some ((-5 : Int32), (B, r87))
          ) else (
            bn (f_X6_heirOf x3 r87) fun r119 =>
            some (r119, (B, r87))
          )
        )
      ) else (
        some ((-1 : Int32), (B, L))
      )
    )
  )
set_option maxHeartbeats 4000000 in
set_option maxRecDepth 100000 in
theorem b_X7_will_48 {p : Program} {l : Launch} {e : Env} {s : State} {m : MethodId} {args : Array Value} {below : List Frame} {meth : Method} {c : Code} {Q : State → Prop} {dC : Nat → ClassId} {dI : Nat → Nat → Nat} {cs : Nat → ClassId} {A : Nat → Prop} {g : Nat → Nat} {res : Int32 × (Nat → Int32) × Wl} (C : CallFix p m c cX7_will 5 s args wsX7_will RX7) (G : GE dC dI cs s) (hA : ∀ q : Nat, s.heap.size ≤ q → A q) {N : Tw} (hR : RTi p l e ({ frames := 3, cells := 0, slots := 0, locals := 71 }) s m args below meth c cX7_will Q (dC, dI) A (fun u : (Nat → Int32) × Wl => (wB g u.1 ++ wT cs (fun i => g (1 + i)) N ++ wW cs (fun i => g (56 + i)) u.2)) res) (x1 : Int32) (x2 : Int32) (x3 : Int32) (s0 : Int32) (B : Nat → Int32) (_ : Tw) (L : Wl)   (H : Heap) (locs : List Loc) (ls : Array Slot) (hl : lv_has ls 5 [(0, .ref (g 0)), (1, .int (x1)), (2, .int (x2)), (3, .int (x3))]) (hP : va_P (dC, dI) vwCl (wB g B ++ wT cs (fun i => g (1 + i)) N ++ wW cs (fun i => g (56 + i)) L) H) (hD : va_D A (wB g B ++ wT cs (fun i => g (1 + i)) N ++ wW cs (fun i => g (56 + i)) L)) (hS : va_S A s.heap H locs) (hf : f_X7_will_48 x1 x2 x3 s0 B N L = some res) : W p l e ({ frames := 3, cells := 0, slots := 0, locals := 71 }) s m args below meth c H locs 0 0 Q (F0 m 48 ls [.int (s0)]) := by
  obtain ⟨hx, hb, hml, hown, hts⟩ := id C
  obtain ⟨hK, hN⟩ := id G
  unfold f_X7_will_48 at hf
  refine lv_istore (lv' := [(4, .int (s0)), (0, .ref (g 0)), (1, .int (x1)), (2, .int (x2)), (3, .int (x3))]) hx hb dX7_will_48 hl (by decide) rfl (fun ls hl => ?_)
  refine lv_iload hx hb dX7_will_50 (lv_at hl 0 rfl) ?_
  refine lv_if_ne (tgt := 63) hx hb dX7_will_52 (by decide) (fun c1 => ?_) (fun c1 => ?_)
  · replace hf := it_f c1 hf
    refine lv_iload_n hx hb dX7_will_63 rfl (lv_at hl 3 rfl) ?_
    refine lv_if_eq (tgt := 75) hx hb dX7_will_64 (by decide) (fun c2 => ?_) (fun c2 => ?_)
    · replace hf := it_t c2 hf
      refine lv_iconst (v := -1) hx hb dX7_will_75 (by decide) ?_
      exact hR _ _ _ _ _ _ dX7_will_76 hf hP hD hS
    · replace hf := it_f c2 hf
      refine lv_iload_n hx hb dX7_will_67 rfl (lv_at hl 3 rfl) ?_
      refine lv_iload_n hx hb dX7_will_68 rfl (lv_at hl 2 rfl) ?_
      obtain ⟨r69, hr69, hf⟩ := bn_e hf
      have hPc := hP.sub (ws' := ([] : va_W)) [] rfl
      refine vp_callSi (W.runS (As := [.int (x2), .int (x1)]) (rest := []) C (c_X7_hasBit l dC dI cs x2 x1 r69 hr69) (va_cwS 2 hts gX7_will_X7_hasBit rfl rfl rfl (by decide +kernel) ⟨Nat.le_of_ble_eq_true rfl, Nat.le_of_ble_eq_true rfl⟩) ⟨(fun a U g mk q => ⟨q.1, q.2.1, GE.calling q.2.2⟩), (fun U hU hW => ⟨rfl, by rw [hU]; exact hPc, GE.warm hW G⟩)⟩ rfl rfl hl.1 rfl (lv_room (Nat.le_of_ble_eq_true rfl)) dX7_will_69 ⟨Nat.le_of_ble_eq_true rfl, Nat.le_of_ble_eq_true rfl⟩) (fun qr69 hqr69 => ?_)
      obtain ⟨hqr69, hnr69⟩ := hqr69
      obtain rfl := hqr69.symm
      refine lv_if_eq (tgt := 77) hx hb dX7_will_72 (by decide) (fun c3 => ?_) (fun c3 => ?_)
      · replace hf := it_t c3 hf
        refine lv_aload_n hx hb dX7_will_77 rfl (lv_at hl 1 rfl) ?_
        refine va_get (D := (dC, dI)) (ci := 7) (v := .ref (g 56)) (C := RX7) (T := TX7) (N := 11) hx hb hts in_X7_will_X7 hown hK hP 0 rfl rfl 6 (by decide) (hts (.fieldLink RX7 50 "BackLoans" "testament" "LBackLoans$Will;") (by decide +kernel)) (fun _ h9 => h9) rfl dX7_will_78 ?_
        refine lv_aload_n hx hb dX7_will_81 rfl (lv_at hl 1 rfl) ?_
        refine va_get (D := (dC, dI)) (ci := 7) (v := .ref (g 1)) (C := RX7) (T := TX7) (N := 11) hx hb hts in_X7_will_X7 hown hK hP 0 rfl rfl 0 (by decide) (hts (.fieldLink RX7 10 "BackLoans" "now" "LBackLoans$Town;") (by decide +kernel)) (fun _ h9 => h9) rfl dX7_will_82 ?_
        refine lv_iload_n hx hb dX7_will_85 rfl (lv_at hl 2 rfl) ?_
        refine lv_iload_n hx hb dX7_will_86 rfl (lv_at hl 3 rfl) ?_
        obtain ⟨r87, hr87, hf⟩ := bn_e hf
        have hPc := hP.sub (ws' := (wW cs (fun i => g (56 + i)) L ++ wT cs (fun i => g (1 + i)) N)) [12, 13, 14, 15, 1, 2, 3, 4, 5, 6, 7, 8, 9, 10, 11] rfl
        have hDc := hD.sub (ws' := (wW cs (fun i => g (56 + i)) L ++ wT cs (fun i => g (1 + i)) N)) [12, 13, 14, 15, 1, 2, 3, 4, 5, 6, 7, 8, 9, 10, 11] (by decide) rfl
        have hFc := va_free (wc := (wW cs (fun i => g (56 + i)) L ++ wT cs (fun i => g (1 + i)) N)) hD hS hA [12, 13, 14, 15, 1, 2, 3, 4, 5, 6, 7, 8, 9, 10, 11] rfl
        refine va_callv (va_runV (As := [.ref (g 1), .int (x1), .int (x2)]) (rest := []) C (c_X6_share l dC dI cs (fun i => g (56 + i)) (fun i => g (1 + i)) H.size L N x1 x2 r87 hr87) (cwV 3 hts gX7_will_X6_share rfl rfl rfl (by decide +kernel) ⟨Nat.le_of_ble_eq_true rfl, Nat.le_of_ble_eq_true rfl⟩) ⟨(fun a U g mk q => ⟨q.1, q.2.1, q.2.2.1, GE.calling q.2.2.2.1, q.2.2.2.2⟩), va_recv hK hPc (ci := 6) (q0 := 0) rfl rfl, (fun U hU hW => ⟨rfl, by rw [hU], by rw [hU]; exact hPc, GE.warm hW G, hDc.weaken (fun _ _ _ _ => trivial)⟩)⟩ rfl rfl hl.1 rfl (lv_room (Nat.le_of_ble_eq_true rfl)) dX7_will_87 ⟨Nat.le_of_ble_eq_true rfl, Nat.le_of_ble_eq_true rfl⟩) hS (fun q _ h => hFc q h) hFc (fun u t H1 locs ht hvm hw hB hz1 hk1 hS => ?_)
        obtain rfl := hw.symm
        obtain ⟨hP1, hD1⟩ := hB
        rw [ht] at hP1
        obtain ⟨hP, hD⟩ := va_join (wr := [0].filterMap (fun i => ((wB g B ++ wT cs (fun i => g (1 + i)) N ++ wW cs (fun i => g (56 + i)) L))[i]?)) (w1 := (wW cs (fun i => g (56 + i)) r87 ++ wT cs (fun i => g (1 + i)) N)) hP hD [12, 13, 14, 15, 1, 2, 3, 4, 5, 6, 7, 8, 9, 10, 11] [0] rfl rfl (by decide) (by decide) hk1 hFc hP1 hD1
        generalize H1 = H at hP hS ⊢
        have hP := hP.sub (ws' := (wB g B ++ wT cs (fun i => g (1 + i)) N ++ wW cs (fun i => g (56 + i)) r87)) [0, 5, 6, 7, 8, 9, 10, 11, 12, 13, 14, 15, 1, 2, 3, 4] rfl
        have hD := hD.sub (ws' := (wB g B ++ wT cs (fun i => g (1 + i)) N ++ wW cs (fun i => g (56 + i)) r87)) [0, 5, 6, 7, 8, 9, 10, 11, 12, 13, 14, 15, 1, 2, 3, 4] (by decide) rfl
        refine lv_iload_n hx hb dX7_will_90 rfl (lv_at hl 4 rfl) ?_
        refine lv_iconst (v := -1) hx hb dX7_will_91 (by decide) ?_
        refine lv_icmp_ne (tgt := 103) hx hb dX7_will_92 (by decide) (fun c4 => ?_) (fun c4 => ?_)
        · replace hf := it_f c4 hf
          refine lv_iload_n hx hb dX7_will_103 rfl (lv_at hl 4 rfl) ?_
          refine lv_aload_n hx hb dX7_will_104 rfl (lv_at hl 1 rfl) ?_
          refine va_get (D := (dC, dI)) (ci := 7) (v := .ref (g 56)) (C := RX7) (T := TX7) (N := 11) hx hb hts in_X7_will_X7 hown hK hP 0 rfl rfl 6 (by decide) (hts (.fieldLink RX7 50 "BackLoans" "testament" "LBackLoans$Will;") (by decide +kernel)) (fun _ h9 => h9) rfl dX7_will_105 ?_
          refine va_get (D := (dC, dI)) (ci := 6) (v := .int ((r87.1 1))) (C := RX6) (T := TX6) (N := 7) hx hb hts in_X7_will_X6 hown hK hP 12 rfl rfl 1 (by decide) (hts (.fieldLink RX7 243 "BackLoans$Will" "parts" "I") (by decide +kernel)) (fun _ h9 => h9) rfl dX7_will_108 ?_
          refine lv_icmp_ge (tgt := 125) hx hb dX7_will_111 (by decide) (fun c5 => ?_) (fun c5 => ?_)
          · replace hf := it_t c5 hf
            refine lv_bipush (v := -5) hx hb dX7_will_125 (by decide) ?_
            exact hR _ _ _ _ _ _ dX7_will_127 hf hP hD hS
          · replace hf := it_f c5 hf
            refine lv_aload_n hx hb dX7_will_114 rfl (lv_at hl 1 rfl) ?_
            refine va_get (D := (dC, dI)) (ci := 7) (v := .ref (g 56)) (C := RX7) (T := TX7) (N := 11) hx hb hts in_X7_will_X7 hown hK hP 0 rfl rfl 6 (by decide) (hts (.fieldLink RX7 50 "BackLoans" "testament" "LBackLoans$Will;") (by decide +kernel)) (fun _ h9 => h9) rfl dX7_will_115 ?_
            refine lv_iload_n hx hb dX7_will_118 rfl (lv_at hl 4 rfl) ?_
            obtain ⟨r119, hr119, hf⟩ := bn_e hf
            have hPc := hP.sub (ws' := (wW cs (fun i => g (56 + i)) r87)) [12, 13, 14, 15] rfl
            refine vp_callSi (W.runV (As := [.int (x3)]) (rest := []) C (c_X6_heirOf l dC dI cs (fun i => g (56 + i)) r87 x3 r119 hr119) (cwV 1 hts gX7_will_X6_heirOf rfl rfl rfl (by decide +kernel) ⟨Nat.le_of_ble_eq_true rfl, Nat.le_of_ble_eq_true rfl⟩) ⟨(fun a U g mk q => ⟨q.1, q.2.1, GE.calling q.2.2⟩), va_recv hK hPc (ci := 6) (q0 := 0) rfl rfl, (fun U hU hW => ⟨rfl, by rw [hU]; exact hPc, GE.warm hW G⟩)⟩ rfl rfl hl.1 rfl (lv_room (Nat.le_of_ble_eq_true rfl)) dX7_will_119 ⟨Nat.le_of_ble_eq_true rfl, Nat.le_of_ble_eq_true rfl⟩) (fun qr119 hqr119 => ?_)
            obtain rfl := hqr119.symm
            refine lv_goto (tgt := 127) hx hb dX7_will_122 (by decide) ?_
            exact hR _ _ _ _ _ _ dX7_will_127 hf hP hD hS
        · replace hf := it_t c4 hf
          refine lv_aload_n hx hb dX7_will_95 rfl (lv_at hl 1 rfl) ?_
          refine va_get (D := (dC, dI)) (ci := 7) (v := .ref (g 56)) (C := RX7) (T := TX7) (N := 11) hx hb hts in_X7_will_X7 hown hK hP 0 rfl rfl 6 (by decide) (hts (.fieldLink RX7 50 "BackLoans" "testament" "LBackLoans$Will;") (by decide +kernel)) (fun _ h9 => h9) rfl dX7_will_96 ?_
          refine va_get (D := (dC, dI)) (ci := 6) (v := .int ((r87.1 0))) (C := RX6) (T := TX6) (N := 7) hx hb hts in_X7_will_X6 hown hK hP 12 rfl rfl 0 (by decide) (hts (.fieldLink RX7 240 "BackLoans$Will" "least" "I") (by decide +kernel)) (fun _ h9 => h9) rfl dX7_will_99 ?_
          exact hR _ _ _ _ _ _ dX7_will_102 hf hP hD hS
      · replace hf := it_f c3 hf
        refine lv_iconst (v := -1) hx hb dX7_will_75 (by decide) ?_
        exact hR _ _ _ _ _ _ dX7_will_76 hf hP hD hS
  · replace hf := it_t c1 hf
    refine lv_aload_n hx hb dX7_will_55 rfl (lv_at hl 1 rfl) ?_
    obtain ⟨r56, hr56, hf⟩ := bn_e hf
    have hPc := hP.sub (ws' := (wB g B)) [0] rfl
    have hDc := hD.sub (ws' := (wB g B)) [0] (by decide) rfl
    have hFc := va_free (wc := (wB g B)) hD hS hA [0] rfl
    refine va_calli (va_runV (As := []) (rest := []) C (c_X7_bad l dC dI cs g H.size B r56 hr56) (cwV 0 hts gX7_will_X7_bad rfl rfl rfl (by decide +kernel) ⟨Nat.le_of_ble_eq_true rfl, Nat.le_of_ble_eq_true rfl⟩) ⟨(fun a U g mk q => ⟨q.1, q.2.1, q.2.2.1, GE.calling q.2.2.2.1, q.2.2.2.2⟩), va_recv hK hPc (ci := 7) (q0 := 0) rfl rfl, (fun U hU hW => ⟨rfl, by rw [hU], by rw [hU]; exact hPc, GE.warm hW G, hDc.weaken (fun _ _ _ _ => trivial)⟩)⟩ rfl rfl hl.1 rfl (lv_room (Nat.le_of_ble_eq_true rfl)) dX7_will_56 ⟨Nat.le_of_ble_eq_true rfl, Nat.le_of_ble_eq_true rfl⟩) hS (fun q _ h => hFc q h) hFc (fun q u t H1 locs ht hvm hw hB hz1 hk1 hS => ?_)
    obtain ⟨rfl, rfl⟩ := hw
    obtain ⟨hP1, hD1⟩ := hB
    rw [ht] at hP1
    obtain ⟨hP, hD⟩ := va_join (wr := [1, 2, 3, 4, 5, 6, 7, 8, 9, 10, 11, 12, 13, 14, 15].filterMap (fun i => ((wB g B ++ wT cs (fun i => g (1 + i)) N ++ wW cs (fun i => g (56 + i)) L))[i]?)) (w1 := (wB g r56.2)) hP hD [0] [1, 2, 3, 4, 5, 6, 7, 8, 9, 10, 11, 12, 13, 14, 15] rfl rfl (by decide) (by decide) hk1 hFc hP1 hD1
    generalize H1 = H at hP hS ⊢
    have hP := hP.sub (ws' := (wB g r56.2 ++ wT cs (fun i => g (1 + i)) N ++ wW cs (fun i => g (56 + i)) L)) [15, 0, 1, 2, 3, 4, 5, 6, 7, 8, 9, 10, 11, 12, 13, 14] rfl
    have hD := hD.sub (ws' := (wB g r56.2 ++ wT cs (fun i => g (1 + i)) N ++ wW cs (fun i => g (56 + i)) L)) [15, 0, 1, 2, 3, 4, 5, 6, 7, 8, 9, 10, 11, 12, 13, 14] (by decide) rfl
    refine lv_pop hx hb dX7_will_59 rfl ?_
    refine lv_bipush (v := -10) hx hb dX7_will_60 (by decide) ?_
    exact hR _ _ _ _ _ _ dX7_will_62 hf hP hD hS
def f_X7_will_47 (x1 : Int32) (x2 : Int32) (x3 : Int32) (B : Nat → Int32) (N : Tw) (L : Wl)  : Option (Int32 × (Nat → Int32) × Wl) :=
  f_X7_will_48 x1 x2 x3 (0 : Int32) B N L
set_option maxHeartbeats 4000000 in
set_option maxRecDepth 100000 in
theorem b_X7_will_47 {p : Program} {l : Launch} {e : Env} {s : State} {m : MethodId} {args : Array Value} {below : List Frame} {meth : Method} {c : Code} {Q : State → Prop} {dC : Nat → ClassId} {dI : Nat → Nat → Nat} {cs : Nat → ClassId} {A : Nat → Prop} {g : Nat → Nat} {res : Int32 × (Nat → Int32) × Wl} (C : CallFix p m c cX7_will 5 s args wsX7_will RX7) (G : GE dC dI cs s) (hA : ∀ q : Nat, s.heap.size ≤ q → A q) {N : Tw} (hR : RTi p l e ({ frames := 3, cells := 0, slots := 0, locals := 71 }) s m args below meth c cX7_will Q (dC, dI) A (fun u : (Nat → Int32) × Wl => (wB g u.1 ++ wT cs (fun i => g (1 + i)) N ++ wW cs (fun i => g (56 + i)) u.2)) res) (x1 : Int32) (x2 : Int32) (x3 : Int32) (B : Nat → Int32) (_ : Tw) (L : Wl)   (H : Heap) (locs : List Loc) (ls : Array Slot) (hl : lv_has ls 5 [(0, .ref (g 0)), (1, .int (x1)), (2, .int (x2)), (3, .int (x3))]) (hP : va_P (dC, dI) vwCl (wB g B ++ wT cs (fun i => g (1 + i)) N ++ wW cs (fun i => g (56 + i)) L) H) (hD : va_D A (wB g B ++ wT cs (fun i => g (1 + i)) N ++ wW cs (fun i => g (56 + i)) L)) (hS : va_S A s.heap H locs) (hf : f_X7_will_47 x1 x2 x3 B N L = some res) : W p l e ({ frames := 3, cells := 0, slots := 0, locals := 71 }) s m args below meth c H locs 0 0 Q (F0 m 47 ls []) := by
  obtain ⟨hx, hb, hml, hown, hts⟩ := id C
  obtain ⟨hK, hN⟩ := id G
  unfold f_X7_will_47 at hf
  refine lv_iconst (v := 0) hx hb dX7_will_47 (by decide) ?_
  exact b_X7_will_48 C G hA hR x1 x2 x3 (0 : Int32) B N L _ _ _ (lv_sub hl [0, 1, 2, 3] rfl) hP hD hS hf
def f_X7_will (x1 : Int32) (x2 : Int32) (x3 : Int32) (B : Nat → Int32) (N : Tw) (L : Wl) : Option (Int32 × (Nat → Int32) × Wl) :=
  bn (f_X5_hasPerson x1 N) fun r5 =>
  if r5 = 0 then (
    f_X7_will_47 x1 x2 x3 B N L
  ) else (
    bn (f_X7_within x2 (0 : Int32) (((1 : Int32) <<< ((N.1 4) &&& 31)) - (1 : Int32))) fun r24 =>
    if r24 = 0 then (
      f_X7_will_47 x1 x2 x3 B N L
    ) else (
      bn (f_J6_bitCount_0f7a4 x2) fun r31 =>
      if (3 : Int32) < r31 then (
        f_X7_will_47 x1 x2 x3 B N L
      ) else (
        if x3 < (-1 : Int32) then (
          f_X7_will_47 x1 x2 x3 B N L
        ) else (
          f_X7_will_48 x1 x2 x3 (1 : Int32) B N L
        )
      )
    )
  )
set_option maxHeartbeats 4000000 in
set_option maxRecDepth 100000 in
theorem c_X7_will (l : Launch) (dC : Nat → ClassId) (dI : Nat → Nat → Nat) (cs : Nat → ClassId) (g : Nat → Nat) (sz : Nat) (B : Nat → Int32) (N : Tw) (L : Wl) (x1 : Int32) (x2 : Int32) (x3 : Int32) (res : Int32 × (Nat → Int32) × Wl) (hf : f_X7_will x1 x2 x3 B N L = some res) : Met l yX7_will wsX7_will ({ frames := 3, cells := 0, slots := 0, locals := 71 }) (va_Pc [.ref (g 0), .int (x1), .int (x2), .int (x3)] (fun U => U.heap.size = sz ∧ va_P (dC, dI) vwCl (wB g B ++ wT cs (fun i => g (1 + i)) N ++ wW cs (fun i => g (56 + i)) L) U.heap ∧ GE dC dI cs U ∧ va_D (fun _ => True) (wB g B ++ wT cs (fun i => g (1 + i)) N ++ wW cs (fun i => g (56 + i)) L))) (va_Qi (fun r (u : (Nat → Int32) × Wl) => r = res.1 ∧ u = res.2) (fun u t => va_P (dC, dI) vwCl ((fun u : (Nat → Int32) × Wl => (wB g u.1 ++ wT cs (fun i => g (1 + i)) N ++ wW cs (fun i => g (56 + i)) u.2)) u) t.heap ∧ va_D (va_A (wB g B ++ wT cs (fun i => g (1 + i)) N ++ wW cs (fun i => g (56 + i)) L) sz) ((fun u : (Nat → Int32) × Wl => (wB g u.1 ++ wT cs (fun i => g (1 + i)) N ++ wW cs (fun i => g (56 + i)) u.2)) u)) (va_A (wB g B ++ wT cs (fun i => g (1 + i)) N ++ wW cs (fun i => g (56 + i)) L) sz)) 0 0 (va_A (wB g B ++ wT cs (fun i => g (1 + i)) N ++ wW cs (fun i => g (56 + i)) L) sz) := by
  refine Met.ofW (cc := cX7_will) (maxL := 5) (ret := (some .int)) (by decide) rfl ?_
  intro p e s m args below meth c s₁ Bd hml hv
  obtain ⟨rfl, hsz, hP, G, hD0⟩ := hv
  have hts := atoms_spec (ws := wsX7_will) Bd.pre
  have hown : s.vm.findClass RX7 = some m.cls := findClass_of_methodNamed Bd.named
  have hlocks := Bd.notSynchronized
  have hx := Bd.exec
  have hb := Bd.bytes
  have hr := Bd.returns
  have C : CallFix p m c cX7_will 5 s _ wsX7_will RX7 := ⟨hx, hb, hml, hown, hts⟩
  obtain ⟨hK, hN⟩ := id G
  subst hsz
  have hD := hD0.self (sz := s.heap.size)
  generalize hAe : va_A (wB g B ++ wT cs (fun i => g (1 + i)) N ++ wW cs (fun i => g (56 + i)) L) s.heap.size = A at hD ⊢
  have hA : ∀ q : Nat, s.heap.size ≤ q → A q := fun q h => by rw [← hAe]; exact Or.inr h
  have hS : va_S A s.heap s.heap [] := va_S.rf
  have hR : RTi p l e ({ frames := 3, cells := 0, slots := 0, locals := 71 }) s m ([.ref (g 0), .int (x1), .int (x2), .int (x3)] : List Value).toArray below meth c cX7_will (MQ below (va_Qi (fun r (u : (Nat → Int32) × Wl) => r = res.1 ∧ u = res.2) (fun u t => va_P (dC, dI) vwCl ((fun u : (Nat → Int32) × Wl => (wB g u.1 ++ wT cs (fun i => g (1 + i)) N ++ wW cs (fun i => g (56 + i)) u.2)) u) t.heap ∧ va_D A ((fun u : (Nat → Int32) × Wl => (wB g u.1 ++ wT cs (fun i => g (1 + i)) N ++ wW cs (fun i => g (56 + i)) u.2)) u)) A) ([.ref (g 0), .int (x1), .int (x2), .int (x3)] : List Value).toArray s 0 0 A) (dC, dI) A (fun u : (Nat → Int32) × Wl => (wB g u.1 ++ wT cs (fun i => g (1 + i)) N ++ wW cs (fun i => g (56 + i)) u.2)) res := fun H locs pc ls r u dd h hP hD hS => W.iret hx hb hr (fun t ht hW => ⟨⟨r, u, rfl, by cases h; exact ⟨rfl, rfl⟩, by rw [ht]; exact hP, hD⟩, hS.F ht⟩) hS.2.2 dd
  have hl := lv_entry ([.ref (g 0), .int (x1), .int (x2), .int (x3)]) (n := 5) (Nat.le_of_ble_eq_true rfl)
  rw [lg_entry_eq]
  generalize (lg_sl ([.ref (g 0), .int (x1), .int (x2), .int (x3)]) ++ List.replicate (5 - (lg_sl ([.ref (g 0), .int (x1), .int (x2), .int (x3)])).length) Slot.unset).toArray = ls at hl ⊢
  have hl : lv_has ls 5 [(0, .ref (g 0)), (1, .int (x1)), (2, .int (x2)), (3, .int (x3))] := hl
  unfold f_X7_will at hf
  refine lv_aload_n hx hb dX7_will_0 rfl (lv_at hl 0 rfl) ?_
  refine va_get (D := (dC, dI)) (ci := 7) (v := .ref (g 1)) (C := RX7) (T := TX7) (N := 11) hx hb hts in_X7_will_X7 hown hK hP 0 rfl rfl 0 (by decide) (hts (.fieldLink RX7 10 "BackLoans" "now" "LBackLoans$Town;") (by decide +kernel)) (fun _ h9 => h9) rfl dX7_will_1 ?_
  refine lv_iload_n hx hb dX7_will_4 rfl (lv_at hl 1 rfl) ?_
  obtain ⟨r5, hr5, hf⟩ := bn_e hf
  have hPc := hP.sub (ws' := (wT cs (fun i => g (1 + i)) N)) [1, 2, 3, 4, 5, 6, 7, 8, 9, 10, 11] rfl
  refine vp_callSi (W.runV (As := [.int (x1)]) (rest := []) C (c_X5_hasPerson l dC dI cs (fun i => g (1 + i)) N x1 r5 hr5) (cwV 1 hts gX7_will_X5_hasPerson rfl rfl rfl (by decide +kernel) ⟨Nat.le_of_ble_eq_true rfl, Nat.le_of_ble_eq_true rfl⟩) ⟨(fun a U g mk q => ⟨q.1, q.2.1, GE.calling q.2.2⟩), va_recv hK hPc (ci := 5) (q0 := 0) rfl rfl, (fun U hU hW => ⟨rfl, by rw [hU]; exact hPc, GE.warm hW G⟩)⟩ rfl rfl hl.1 rfl (lv_room (Nat.le_of_ble_eq_true rfl)) dX7_will_5 ⟨Nat.le_of_ble_eq_true rfl, Nat.le_of_ble_eq_true rfl⟩) (fun qr5 hqr5 => ?_)
  obtain ⟨hqr5, hnr5⟩ := hqr5
  obtain rfl := hqr5.symm
  refine lv_if_eq (tgt := 47) hx hb dX7_will_8 (by decide) (fun c1 => ?_) (fun c1 => ?_)
  · replace hf := it_t c1 hf
    exact b_X7_will_47 C G hA hR x1 x2 x3 B N L _ _ _ (lv_sub hl [0, 1, 2, 3] rfl) hP hD hS hf
  · replace hf := it_f c1 hf
    refine lv_iload_n hx hb dX7_will_11 rfl (lv_at hl 2 rfl) ?_
    refine lv_iconst (v := 0) hx hb dX7_will_12 (by decide) ?_
    refine lv_iconst (v := 1) hx hb dX7_will_13 (by decide) ?_
    refine lv_aload_n hx hb dX7_will_14 rfl (lv_at hl 0 rfl) ?_
    refine va_get (D := (dC, dI)) (ci := 7) (v := .ref (g 1)) (C := RX7) (T := TX7) (N := 11) hx hb hts in_X7_will_X7 hown hK hP 0 rfl rfl 0 (by decide) (hts (.fieldLink RX7 10 "BackLoans" "now" "LBackLoans$Town;") (by decide +kernel)) (fun _ h9 => h9) rfl dX7_will_15 ?_
    refine va_get (D := (dC, dI)) (ci := 5) (v := .int ((N.1 4))) (C := RX5) (T := TX5) (N := 17) hx hb hts in_X7_will_X5 hown hK hP 1 rfl rfl 4 (by decide) (hts (.fieldLink RX7 77 "BackLoans$Town" "people" "I") (by decide +kernel)) (fun _ h9 => h9) rfl dX7_will_18 ?_
    refine lv_ishl hx hb dX7_will_21 ?_
    refine lv_iconst (v := 1) hx hb dX7_will_22 (by decide) ?_
    refine lv_isub hx hb dX7_will_23 ?_
    obtain ⟨r24, hr24, hf⟩ := bn_e hf
    have hPc := hP.sub (ws' := ([] : va_W)) [] rfl
    refine vp_callSi (W.runS (As := [.int (x2), .int ((0 : Int32)), .int ((((1 : Int32) <<< ((N.1 4) &&& 31)) - (1 : Int32)))]) (rest := []) C (c_X7_within l dC dI cs x2 (0 : Int32) (((1 : Int32) <<< ((N.1 4) &&& 31)) - (1 : Int32)) r24 hr24) (va_cwS 3 hts gX7_will_X7_within rfl rfl rfl (by decide +kernel) ⟨Nat.le_of_ble_eq_true rfl, Nat.le_of_ble_eq_true rfl⟩) ⟨(fun a U g mk q => ⟨q.1, q.2.1, GE.calling q.2.2⟩), (fun U hU hW => ⟨rfl, by rw [hU]; exact hPc, GE.warm hW G⟩)⟩ rfl rfl hl.1 rfl (lv_room (Nat.le_of_ble_eq_true rfl)) dX7_will_24 ⟨Nat.le_of_ble_eq_true rfl, Nat.le_of_ble_eq_true rfl⟩) (fun qr24 hqr24 => ?_)
    obtain ⟨hqr24, hnr24⟩ := hqr24
    obtain rfl := hqr24.symm
    refine lv_if_eq (tgt := 47) hx hb dX7_will_27 (by decide) (fun c2 => ?_) (fun c2 => ?_)
    · replace hf := it_t c2 hf
      exact b_X7_will_47 C G hA hR x1 x2 x3 B N L _ _ _ (lv_sub hl [0, 1, 2, 3] rfl) hP hD hS hf
    · replace hf := it_f c2 hf
      refine lv_iload_n hx hb dX7_will_30 rfl (lv_at hl 2 rfl) ?_
      obtain ⟨r31, hr31, hf⟩ := bn_e hf
      have hPc := hP.sub (ws' := ([] : va_W)) [] rfl
      refine vp_callSi (W.runS (As := [.int (x2)]) (rest := []) C (c_J6_bitCount_0f7a4 l dC dI cs x2 r31 hr31) (va_cwS 1 hts gX7_will_J6_bitCount_0f7a4 rfl rfl rfl (by decide +kernel) ⟨Nat.le_of_ble_eq_true rfl, Nat.le_of_ble_eq_true rfl⟩) ⟨(fun a U g mk q => ⟨q.1, q.2.1, GE.calling q.2.2⟩), (fun U hU hW => ⟨rfl, by rw [hU]; exact hPc, GE.warm hW G⟩)⟩ rfl rfl hl.1 rfl (lv_room (Nat.le_of_ble_eq_true rfl)) dX7_will_31 ⟨Nat.le_of_ble_eq_true rfl, Nat.le_of_ble_eq_true rfl⟩) (fun qr31 hqr31 => ?_)
      obtain rfl := hqr31.symm
      refine lv_iconst (v := 3) hx hb dX7_will_34 (by decide) ?_
      refine lv_icmp_gt (tgt := 47) hx hb dX7_will_35 (by decide) (fun c3 => ?_) (fun c3 => ?_)
      · replace hf := it_t c3 hf
        exact b_X7_will_47 C G hA hR x1 x2 x3 B N L _ _ _ (lv_sub hl [0, 1, 2, 3] rfl) hP hD hS hf
      · replace hf := it_f c3 hf
        refine lv_iload_n hx hb dX7_will_38 rfl (lv_at hl 3 rfl) ?_
        refine lv_iconst (v := -1) hx hb dX7_will_39 (by decide) ?_
        refine lv_icmp_lt (tgt := 47) hx hb dX7_will_40 (by decide) (fun c4 => ?_) (fun c4 => ?_)
        · replace hf := it_t c4 hf
          exact b_X7_will_47 C G hA hR x1 x2 x3 B N L _ _ _ (lv_sub hl [0, 1, 2, 3] rfl) hP hD hS hf
        · replace hf := it_f c4 hf
          refine lv_iconst (v := 1) hx hb dX7_will_43 (by decide) ?_
          refine lv_goto (tgt := 48) hx hb dX7_will_44 (by decide) ?_
          exact b_X7_will_48 C G hA hR x1 x2 x3 (1 : Int32) B N L _ _ _ (lv_sub hl [0, 1, 2, 3] rfl) hP hD hS hf

theorem in_X7_whom_X7 : ∀ w ∈ wsX70, w ∈ wsX7_whom := by decide +kernel
def f_X7_whom (x1 : Int32) (x2 : Int32) (B : Nat → Int32) (N : Tw) (R : Tw) : Option (Int32 × (Nat → Int32) × Tw) :=
  bn (f_X7_within x1 (0 : Int32) (59 : Int32)) fun r4 =>
  if r4 = 0 then (
    bn (f_X7_bad B) fun r11 =>
    some (r11.1, (r11.2, R))
  ) else (
    bn (f_X1_hadInMonth x1 x2 R N) fun r25 =>
    some (r25.1, (B, r25.2))
  )
set_option maxHeartbeats 4000000 in
set_option maxRecDepth 100000 in
theorem c_X7_whom (l : Launch) (dC : Nat → ClassId) (dI : Nat → Nat → Nat) (cs : Nat → ClassId) (g : Nat → Nat) (sz : Nat) (B : Nat → Int32) (N : Tw) (R : Tw) (x1 : Int32) (x2 : Int32) (res : Int32 × (Nat → Int32) × Tw) (hf : f_X7_whom x1 x2 B N R = some res) : Met l yX7_whom wsX7_whom ({ frames := 6, cells := 0, slots := 0, locals := 138 }) (va_Pc [.ref (g 0), .int (x1), .int (x2)] (fun U => U.heap.size = sz ∧ va_P (dC, dI) vwCl (wB g B ++ wT cs (fun i => g (1 + i)) N ++ wF (g 44) (g 45) ++ wT cs (fun i => g (45 + i)) R) U.heap ∧ GE dC dI cs U ∧ va_D (fun _ => True) (wB g B ++ wT cs (fun i => g (1 + i)) N ++ wF (g 44) (g 45) ++ wT cs (fun i => g (45 + i)) R))) (va_Qi (fun r (u : (Nat → Int32) × Tw) => r = res.1 ∧ u = res.2) (fun u t => va_P (dC, dI) vwCl ((fun u : (Nat → Int32) × Tw => (wB g u.1 ++ wT cs (fun i => g (1 + i)) N ++ wF (g 44) (g 45) ++ wT cs (fun i => g (45 + i)) u.2)) u) t.heap ∧ va_D (va_A (wB g B ++ wT cs (fun i => g (1 + i)) N ++ wF (g 44) (g 45) ++ wT cs (fun i => g (45 + i)) R) sz) ((fun u : (Nat → Int32) × Tw => (wB g u.1 ++ wT cs (fun i => g (1 + i)) N ++ wF (g 44) (g 45) ++ wT cs (fun i => g (45 + i)) u.2)) u)) (va_A (wB g B ++ wT cs (fun i => g (1 + i)) N ++ wF (g 44) (g 45) ++ wT cs (fun i => g (45 + i)) R) sz)) 0 0 (va_A (wB g B ++ wT cs (fun i => g (1 + i)) N ++ wF (g 44) (g 45) ++ wT cs (fun i => g (45 + i)) R) sz) := by
  refine Met.ofW (cc := cX7_whom) (maxL := 3) (ret := (some .int)) (by decide) rfl ?_
  intro p e s m args below meth c s₁ Bd hml hv
  obtain ⟨rfl, hsz, hP, G, hD0⟩ := hv
  have hts := atoms_spec (ws := wsX7_whom) Bd.pre
  have hown : s.vm.findClass RX7 = some m.cls := findClass_of_methodNamed Bd.named
  have hlocks := Bd.notSynchronized
  have hx := Bd.exec
  have hb := Bd.bytes
  have hr := Bd.returns
  have C : CallFix p m c cX7_whom 3 s _ wsX7_whom RX7 := ⟨hx, hb, hml, hown, hts⟩
  obtain ⟨hK, hN⟩ := id G
  subst hsz
  have hD := hD0.self (sz := s.heap.size)
  generalize hAe : va_A (wB g B ++ wT cs (fun i => g (1 + i)) N ++ wF (g 44) (g 45) ++ wT cs (fun i => g (45 + i)) R) s.heap.size = A at hD ⊢
  have hA : ∀ q : Nat, s.heap.size ≤ q → A q := fun q h => by rw [← hAe]; exact Or.inr h
  have hS : va_S A s.heap s.heap [] := va_S.rf
  have hR : RTi p l e ({ frames := 6, cells := 0, slots := 0, locals := 138 }) s m ([.ref (g 0), .int (x1), .int (x2)] : List Value).toArray below meth c cX7_whom (MQ below (va_Qi (fun r (u : (Nat → Int32) × Tw) => r = res.1 ∧ u = res.2) (fun u t => va_P (dC, dI) vwCl ((fun u : (Nat → Int32) × Tw => (wB g u.1 ++ wT cs (fun i => g (1 + i)) N ++ wF (g 44) (g 45) ++ wT cs (fun i => g (45 + i)) u.2)) u) t.heap ∧ va_D A ((fun u : (Nat → Int32) × Tw => (wB g u.1 ++ wT cs (fun i => g (1 + i)) N ++ wF (g 44) (g 45) ++ wT cs (fun i => g (45 + i)) u.2)) u)) A) ([.ref (g 0), .int (x1), .int (x2)] : List Value).toArray s 0 0 A) (dC, dI) A (fun u : (Nat → Int32) × Tw => (wB g u.1 ++ wT cs (fun i => g (1 + i)) N ++ wF (g 44) (g 45) ++ wT cs (fun i => g (45 + i)) u.2)) res := fun H locs pc ls r u dd h hP hD hS => W.iret hx hb hr (fun t ht hW => ⟨⟨r, u, rfl, by cases h; exact ⟨rfl, rfl⟩, by rw [ht]; exact hP, hD⟩, hS.F ht⟩) hS.2.2 dd
  have hl := lv_entry ([.ref (g 0), .int (x1), .int (x2)]) (n := 3) (Nat.le_of_ble_eq_true rfl)
  rw [lg_entry_eq]
  generalize (lg_sl ([.ref (g 0), .int (x1), .int (x2)]) ++ List.replicate (3 - (lg_sl ([.ref (g 0), .int (x1), .int (x2)])).length) Slot.unset).toArray = ls at hl ⊢
  have hl : lv_has ls 3 [(0, .ref (g 0)), (1, .int (x1)), (2, .int (x2))] := hl
  unfold f_X7_whom at hf
  refine lv_iload_n hx hb dX7_whom_0 rfl (lv_at hl 1 rfl) ?_
  refine lv_iconst (v := 0) hx hb dX7_whom_1 (by decide) ?_
  refine lv_bipush (v := 59) hx hb dX7_whom_2 (by decide) ?_
  obtain ⟨r4, hr4, hf⟩ := bn_e hf
  have hPc := hP.sub (ws' := ([] : va_W)) [] rfl
  refine vp_callSi (W.runS (As := [.int (x1), .int ((0 : Int32)), .int ((59 : Int32))]) (rest := []) C (c_X7_within l dC dI cs x1 (0 : Int32) (59 : Int32) r4 hr4) (va_cwS 3 hts gX7_whom_X7_within rfl rfl rfl (by decide +kernel) ⟨Nat.le_of_ble_eq_true rfl, Nat.le_of_ble_eq_true rfl⟩) ⟨(fun a U g mk q => ⟨q.1, q.2.1, GE.calling q.2.2⟩), (fun U hU hW => ⟨rfl, by rw [hU]; exact hPc, GE.warm hW G⟩)⟩ rfl rfl hl.1 rfl (lv_room (Nat.le_of_ble_eq_true rfl)) dX7_whom_4 ⟨Nat.le_of_ble_eq_true rfl, Nat.le_of_ble_eq_true rfl⟩) (fun qr4 hqr4 => ?_)
  obtain ⟨hqr4, hnr4⟩ := hqr4
  obtain rfl := hqr4.symm
  refine lv_if_ne (tgt := 15) hx hb dX7_whom_7 (by decide) (fun c1 => ?_) (fun c1 => ?_)
  · replace hf := it_f c1 hf
    refine lv_aload_n hx hb dX7_whom_15 rfl (lv_at hl 0 rfl) ?_
    refine va_get (D := (dC, dI)) (ci := 7) (v := .ref (g 44)) (C := RX7) (T := TX7) (N := 11) hx hb hts in_X7_whom_X7 hown hK hP 0 rfl rfl 5 (by decide) (hts (.fieldLink RX7 43 "BackLoans" "foresight" "LBackLoans$Foresight;") (by decide +kernel)) (fun _ h9 => h9) rfl dX7_whom_16 ?_
    refine lv_aload_n hx hb dX7_whom_19 rfl (lv_at hl 0 rfl) ?_
    refine va_get (D := (dC, dI)) (ci := 7) (v := .ref (g 1)) (C := RX7) (T := TX7) (N := 11) hx hb hts in_X7_whom_X7 hown hK hP 0 rfl rfl 0 (by decide) (hts (.fieldLink RX7 10 "BackLoans" "now" "LBackLoans$Town;") (by decide +kernel)) (fun _ h9 => h9) rfl dX7_whom_20 ?_
    refine lv_iload_n hx hb dX7_whom_23 rfl (lv_at hl 1 rfl) ?_
    refine lv_iload_n hx hb dX7_whom_24 rfl (lv_at hl 2 rfl) ?_
    obtain ⟨r25, hr25, hf⟩ := bn_e hf
    have hPc := hP.sub (ws' := (wF (g 44) (g 45) ++ wT cs (fun i => g (45 + i)) R ++ wT cs (fun i => g (1 + i)) N)) [12, 13, 14, 15, 16, 17, 18, 19, 20, 21, 22, 23, 1, 2, 3, 4, 5, 6, 7, 8, 9, 10, 11] rfl
    have hDc := hD.sub (ws' := (wF (g 44) (g 45) ++ wT cs (fun i => g (45 + i)) R ++ wT cs (fun i => g (1 + i)) N)) [12, 13, 14, 15, 16, 17, 18, 19, 20, 21, 22, 23, 1, 2, 3, 4, 5, 6, 7, 8, 9, 10, 11] (by decide) rfl
    have hFc := va_free (wc := (wF (g 44) (g 45) ++ wT cs (fun i => g (45 + i)) R ++ wT cs (fun i => g (1 + i)) N)) hD hS hA [12, 13, 14, 15, 16, 17, 18, 19, 20, 21, 22, 23, 1, 2, 3, 4, 5, 6, 7, 8, 9, 10, 11] rfl
    refine va_calli (va_runV (As := [.ref (g 1), .int (x1), .int (x2)]) (rest := []) C (c_X1_hadInMonth l dC dI cs (fun i => g (44 + i)) (fun i => g (45 + i)) (fun i => g (1 + i)) s.heap.size R N x1 x2 r25 hr25) (cwV 3 hts gX7_whom_X1_hadInMonth rfl rfl rfl (by decide +kernel) ⟨Nat.le_of_ble_eq_true rfl, Nat.le_of_ble_eq_true rfl⟩) ⟨(fun a U g mk q => ⟨q.1, q.2.1, q.2.2.1, GE.calling q.2.2.2.1, q.2.2.2.2⟩), va_recv hK hPc (ci := 1) (q0 := 0) rfl rfl, (fun U hU hW => ⟨rfl, by rw [hU], by rw [hU]; exact hPc, GE.warm hW G, hDc.weaken (fun _ _ _ _ => trivial)⟩)⟩ rfl rfl hl.1 rfl (lv_room (Nat.le_of_ble_eq_true rfl)) dX7_whom_25 ⟨Nat.le_of_ble_eq_true rfl, Nat.le_of_ble_eq_true rfl⟩) hS (fun q _ h => hFc q h) hFc (fun q u t H1 locs ht hvm hw hB hz1 hk1 hS => ?_)
    obtain ⟨rfl, rfl⟩ := hw
    obtain ⟨hP1, hD1⟩ := hB
    rw [ht] at hP1
    obtain ⟨hP, hD⟩ := va_join (wr := [0].filterMap (fun i => ((wB g B ++ wT cs (fun i => g (1 + i)) N ++ wF (g 44) (g 45) ++ wT cs (fun i => g (45 + i)) R))[i]?)) (w1 := (wF (g 44) (g 45) ++ wT cs (fun i => g (45 + i)) r25.2 ++ wT cs (fun i => g (1 + i)) N)) hP hD [12, 13, 14, 15, 16, 17, 18, 19, 20, 21, 22, 23, 1, 2, 3, 4, 5, 6, 7, 8, 9, 10, 11] [0] rfl rfl (by decide) (by decide) hk1 hFc hP1 hD1
    generalize H1 = H at hP hS ⊢
    have hP := hP.sub (ws' := (wB g B ++ wT cs (fun i => g (1 + i)) N ++ wF (g 44) (g 45) ++ wT cs (fun i => g (45 + i)) r25.2)) [0, 13, 14, 15, 16, 17, 18, 19, 20, 21, 22, 23, 1, 2, 3, 4, 5, 6, 7, 8, 9, 10, 11, 12] rfl
    have hD := hD.sub (ws' := (wB g B ++ wT cs (fun i => g (1 + i)) N ++ wF (g 44) (g 45) ++ wT cs (fun i => g (45 + i)) r25.2)) [0, 13, 14, 15, 16, 17, 18, 19, 20, 21, 22, 23, 1, 2, 3, 4, 5, 6, 7, 8, 9, 10, 11, 12] (by decide) rfl
    exact hR _ _ _ _ _ _ dX7_whom_28 hf hP hD hS
  · replace hf := it_t c1 hf
    refine lv_aload_n hx hb dX7_whom_10 rfl (lv_at hl 0 rfl) ?_
    obtain ⟨r11, hr11, hf⟩ := bn_e hf
    have hPc := hP.sub (ws' := (wB g B)) [0] rfl
    have hDc := hD.sub (ws' := (wB g B)) [0] (by decide) rfl
    have hFc := va_free (wc := (wB g B)) hD hS hA [0] rfl
    refine va_calli (va_runV (As := []) (rest := []) C (c_X7_bad l dC dI cs g s.heap.size B r11 hr11) (cwV 0 hts gX7_whom_X7_bad rfl rfl rfl (by decide +kernel) ⟨Nat.le_of_ble_eq_true rfl, Nat.le_of_ble_eq_true rfl⟩) ⟨(fun a U g mk q => ⟨q.1, q.2.1, q.2.2.1, GE.calling q.2.2.2.1, q.2.2.2.2⟩), va_recv hK hPc (ci := 7) (q0 := 0) rfl rfl, (fun U hU hW => ⟨rfl, by rw [hU], by rw [hU]; exact hPc, GE.warm hW G, hDc.weaken (fun _ _ _ _ => trivial)⟩)⟩ rfl rfl hl.1 rfl (lv_room (Nat.le_of_ble_eq_true rfl)) dX7_whom_11 ⟨Nat.le_of_ble_eq_true rfl, Nat.le_of_ble_eq_true rfl⟩) hS (fun q _ h => hFc q h) hFc (fun q u t H1 locs ht hvm hw hB hz1 hk1 hS => ?_)
    obtain ⟨rfl, rfl⟩ := hw
    obtain ⟨hP1, hD1⟩ := hB
    rw [ht] at hP1
    obtain ⟨hP, hD⟩ := va_join (wr := [1, 2, 3, 4, 5, 6, 7, 8, 9, 10, 11, 12, 13, 14, 15, 16, 17, 18, 19, 20, 21, 22, 23].filterMap (fun i => ((wB g B ++ wT cs (fun i => g (1 + i)) N ++ wF (g 44) (g 45) ++ wT cs (fun i => g (45 + i)) R))[i]?)) (w1 := (wB g r11.2)) hP hD [0] [1, 2, 3, 4, 5, 6, 7, 8, 9, 10, 11, 12, 13, 14, 15, 16, 17, 18, 19, 20, 21, 22, 23] rfl rfl (by decide) (by decide) hk1 hFc hP1 hD1
    generalize H1 = H at hP hS ⊢
    have hP := hP.sub (ws' := (wB g r11.2 ++ wT cs (fun i => g (1 + i)) N ++ wF (g 44) (g 45) ++ wT cs (fun i => g (45 + i)) R)) [23, 0, 1, 2, 3, 4, 5, 6, 7, 8, 9, 10, 11, 12, 13, 14, 15, 16, 17, 18, 19, 20, 21, 22] rfl
    have hD := hD.sub (ws' := (wB g r11.2 ++ wT cs (fun i => g (1 + i)) N ++ wF (g 44) (g 45) ++ wT cs (fun i => g (45 + i)) R)) [23, 0, 1, 2, 3, 4, 5, 6, 7, 8, 9, 10, 11, 12, 13, 14, 15, 16, 17, 18, 19, 20, 21, 22] (by decide) rfl
    exact hR _ _ _ _ _ _ dX7_whom_14 hf hP hD hS

theorem in_X7_price_X5 : ∀ w ∈ wsX50, w ∈ wsX7_price := by decide +kernel
theorem in_X7_price_X7 : ∀ w ∈ wsX70, w ∈ wsX7_price := by decide +kernel
def f_X7_price_24 (B : Nat → Int32) (N : Tw)  : Option (Int32 × (Nat → Int32)) :=
  bn (f_X7_bad B) fun r25 =>
  some (r25.1, r25.2)
set_option maxHeartbeats 4000000 in
set_option maxRecDepth 100000 in
theorem b_X7_price_24 {p : Program} {l : Launch} {e : Env} {s : State} {m : MethodId} {args : Array Value} {below : List Frame} {meth : Method} {c : Code} {Q : State → Prop} {dC : Nat → ClassId} {dI : Nat → Nat → Nat} {cs : Nat → ClassId} {A : Nat → Prop} {g : Nat → Nat} {res : Int32 × (Nat → Int32)} (C : CallFix p m c cX7_price 2 s args wsX7_price RX7) (G : GE dC dI cs s) (hA : ∀ q : Nat, s.heap.size ≤ q → A q) {N : Tw} (hR : RTi p l e ({ frames := 1, cells := 0, slots := 0, locals := 21 }) s m args below meth c cX7_price Q (dC, dI) A (fun u : (Nat → Int32) => (wB g u ++ wT cs (fun i => g (1 + i)) N)) res) (B : Nat → Int32) (_ : Tw)   (H : Heap) (locs : List Loc) (ls : Array Slot) (hl : lv_has ls 2 [(0, .ref (g 0))]) (hP : va_P (dC, dI) vwCl (wB g B ++ wT cs (fun i => g (1 + i)) N) H) (hD : va_D A (wB g B ++ wT cs (fun i => g (1 + i)) N)) (hS : va_S A s.heap H locs) (hf : f_X7_price_24 B N = some res) : W p l e ({ frames := 1, cells := 0, slots := 0, locals := 21 }) s m args below meth c H locs 0 0 Q (F0 m 24 ls []) := by
  obtain ⟨hx, hb, hml, hown, hts⟩ := id C
  obtain ⟨hK, hN⟩ := id G
  unfold f_X7_price_24 at hf
  refine lv_aload_n hx hb dX7_price_24 rfl (lv_at hl 0 rfl) ?_
  obtain ⟨r25, hr25, hf⟩ := bn_e hf
  have hPc := hP.sub (ws' := (wB g B)) [0] rfl
  have hDc := hD.sub (ws' := (wB g B)) [0] (by decide) rfl
  have hFc := va_free (wc := (wB g B)) hD hS hA [0] rfl
  refine va_calli (va_runV (As := []) (rest := []) C (c_X7_bad l dC dI cs g H.size B r25 hr25) (cwV 0 hts gX7_price_X7_bad rfl rfl rfl (by decide +kernel) ⟨Nat.le_of_ble_eq_true rfl, Nat.le_of_ble_eq_true rfl⟩) ⟨(fun a U g mk q => ⟨q.1, q.2.1, q.2.2.1, GE.calling q.2.2.2.1, q.2.2.2.2⟩), va_recv hK hPc (ci := 7) (q0 := 0) rfl rfl, (fun U hU hW => ⟨rfl, by rw [hU], by rw [hU]; exact hPc, GE.warm hW G, hDc.weaken (fun _ _ _ _ => trivial)⟩)⟩ rfl rfl hl.1 rfl (lv_room (Nat.le_of_ble_eq_true rfl)) dX7_price_25 ⟨Nat.le_of_ble_eq_true rfl, Nat.le_of_ble_eq_true rfl⟩) hS (fun q _ h => hFc q h) hFc (fun q u t H1 locs ht hvm hw hB hz1 hk1 hS => ?_)
  obtain ⟨rfl, rfl⟩ := hw
  obtain ⟨hP1, hD1⟩ := hB
  rw [ht] at hP1
  obtain ⟨hP, hD⟩ := va_join (wr := [1, 2, 3, 4, 5, 6, 7, 8, 9, 10, 11].filterMap (fun i => ((wB g B ++ wT cs (fun i => g (1 + i)) N))[i]?)) (w1 := (wB g r25.2)) hP hD [0] [1, 2, 3, 4, 5, 6, 7, 8, 9, 10, 11] rfl rfl (by decide) (by decide) hk1 hFc hP1 hD1
  generalize H1 = H at hP hS ⊢
  have hP := hP.sub (ws' := (wB g r25.2 ++ wT cs (fun i => g (1 + i)) N)) [11, 0, 1, 2, 3, 4, 5, 6, 7, 8, 9, 10] rfl
  have hD := hD.sub (ws' := (wB g r25.2 ++ wT cs (fun i => g (1 + i)) N)) [11, 0, 1, 2, 3, 4, 5, 6, 7, 8, 9, 10] (by decide) rfl
  exact hR _ _ _ _ _ _ dX7_price_28 hf hP hD hS
def f_X7_price (x1 : Int32) (B : Nat → Int32) (N : Tw) : Option (Int32 × (Nat → Int32)) :=
  bn (f_X5_hasLoan x1 N) fun r5 =>
  if r5 = 0 then (
    f_X7_price_24 B N
  ) else (
    gi (x1) 8 <|
    if (1 : Int32) ≤ ((N.2 5) (x1).toNatClampNeg) then (
      bn (f_X5_givenPence x1 N) fun r34 =>
      gi (x1) 8 <|
      gi (x1) 8 <|
      gz (((N.2 5) (x1).toNatClampNeg)) <|
      some (((r34 * ((N.2 7) (x1).toNatClampNeg)) / ((N.2 5) (x1).toNatClampNeg)), B)
    ) else (
      f_X7_price_24 B N
    )
  )
set_option maxHeartbeats 4000000 in
set_option maxRecDepth 100000 in
theorem c_X7_price (l : Launch) (dC : Nat → ClassId) (dI : Nat → Nat → Nat) (cs : Nat → ClassId) (g : Nat → Nat) (sz : Nat) (B : Nat → Int32) (N : Tw) (x1 : Int32) (res : Int32 × (Nat → Int32)) (hf : f_X7_price x1 B N = some res) : Met l yX7_price wsX7_price ({ frames := 1, cells := 0, slots := 0, locals := 21 }) (va_Pc [.ref (g 0), .int (x1)] (fun U => U.heap.size = sz ∧ va_P (dC, dI) vwCl (wB g B ++ wT cs (fun i => g (1 + i)) N) U.heap ∧ GE dC dI cs U ∧ va_D (fun _ => True) (wB g B ++ wT cs (fun i => g (1 + i)) N))) (va_Qi (fun r (u : (Nat → Int32)) => r = res.1 ∧ u = res.2) (fun u t => va_P (dC, dI) vwCl ((fun u : (Nat → Int32) => (wB g u ++ wT cs (fun i => g (1 + i)) N)) u) t.heap ∧ va_D (va_A (wB g B ++ wT cs (fun i => g (1 + i)) N) sz) ((fun u : (Nat → Int32) => (wB g u ++ wT cs (fun i => g (1 + i)) N)) u)) (va_A (wB g B ++ wT cs (fun i => g (1 + i)) N) sz)) 0 0 (va_A (wB g B ++ wT cs (fun i => g (1 + i)) N) sz) := by
  refine Met.ofW (cc := cX7_price) (maxL := 2) (ret := (some .int)) (by decide) rfl ?_
  intro p e s m args below meth c s₁ Bd hml hv
  obtain ⟨rfl, hsz, hP, G, hD0⟩ := hv
  have hts := atoms_spec (ws := wsX7_price) Bd.pre
  have hown : s.vm.findClass RX7 = some m.cls := findClass_of_methodNamed Bd.named
  have hlocks := Bd.notSynchronized
  have hx := Bd.exec
  have hb := Bd.bytes
  have hr := Bd.returns
  have C : CallFix p m c cX7_price 2 s _ wsX7_price RX7 := ⟨hx, hb, hml, hown, hts⟩
  obtain ⟨hK, hN⟩ := id G
  subst hsz
  have hD := hD0.self (sz := s.heap.size)
  generalize hAe : va_A (wB g B ++ wT cs (fun i => g (1 + i)) N) s.heap.size = A at hD ⊢
  have hA : ∀ q : Nat, s.heap.size ≤ q → A q := fun q h => by rw [← hAe]; exact Or.inr h
  have hS : va_S A s.heap s.heap [] := va_S.rf
  have hR : RTi p l e ({ frames := 1, cells := 0, slots := 0, locals := 21 }) s m ([.ref (g 0), .int (x1)] : List Value).toArray below meth c cX7_price (MQ below (va_Qi (fun r (u : (Nat → Int32)) => r = res.1 ∧ u = res.2) (fun u t => va_P (dC, dI) vwCl ((fun u : (Nat → Int32) => (wB g u ++ wT cs (fun i => g (1 + i)) N)) u) t.heap ∧ va_D A ((fun u : (Nat → Int32) => (wB g u ++ wT cs (fun i => g (1 + i)) N)) u)) A) ([.ref (g 0), .int (x1)] : List Value).toArray s 0 0 A) (dC, dI) A (fun u : (Nat → Int32) => (wB g u ++ wT cs (fun i => g (1 + i)) N)) res := fun H locs pc ls r u dd h hP hD hS => W.iret hx hb hr (fun t ht hW => ⟨⟨r, u, rfl, by cases h; exact ⟨rfl, rfl⟩, by rw [ht]; exact hP, hD⟩, hS.F ht⟩) hS.2.2 dd
  have hl := lv_entry ([.ref (g 0), .int (x1)]) (n := 2) (Nat.le_of_ble_eq_true rfl)
  rw [lg_entry_eq]
  generalize (lg_sl ([.ref (g 0), .int (x1)]) ++ List.replicate (2 - (lg_sl ([.ref (g 0), .int (x1)])).length) Slot.unset).toArray = ls at hl ⊢
  have hl : lv_has ls 2 [(0, .ref (g 0)), (1, .int (x1))] := hl
  unfold f_X7_price at hf
  refine lv_aload_n hx hb dX7_price_0 rfl (lv_at hl 0 rfl) ?_
  refine va_get (D := (dC, dI)) (ci := 7) (v := .ref (g 1)) (C := RX7) (T := TX7) (N := 11) hx hb hts in_X7_price_X7 hown hK hP 0 rfl rfl 0 (by decide) (hts (.fieldLink RX7 10 "BackLoans" "now" "LBackLoans$Town;") (by decide +kernel)) (fun _ h9 => h9) rfl dX7_price_1 ?_
  refine lv_iload_n hx hb dX7_price_4 rfl (lv_at hl 1 rfl) ?_
  obtain ⟨r5, hr5, hf⟩ := bn_e hf
  have hPc := hP.sub (ws' := (wT cs (fun i => g (1 + i)) N)) [1, 2, 3, 4, 5, 6, 7, 8, 9, 10, 11] rfl
  refine vp_callSi (W.runV (As := [.int (x1)]) (rest := []) C (c_X5_hasLoan l dC dI cs (fun i => g (1 + i)) N x1 r5 hr5) (cwV 1 hts gX7_price_X5_hasLoan rfl rfl rfl (by decide +kernel) ⟨Nat.le_of_ble_eq_true rfl, Nat.le_of_ble_eq_true rfl⟩) ⟨(fun a U g mk q => ⟨q.1, q.2.1, GE.calling q.2.2⟩), va_recv hK hPc (ci := 5) (q0 := 0) rfl rfl, (fun U hU hW => ⟨rfl, by rw [hU]; exact hPc, GE.warm hW G⟩)⟩ rfl rfl hl.1 rfl (lv_room (Nat.le_of_ble_eq_true rfl)) dX7_price_5 ⟨Nat.le_of_ble_eq_true rfl, Nat.le_of_ble_eq_true rfl⟩) (fun qr5 hqr5 => ?_)
  obtain ⟨hqr5, hnr5⟩ := hqr5
  obtain rfl := hqr5.symm
  refine lv_if_eq (tgt := 24) hx hb dX7_price_8 (by decide) (fun c1 => ?_) (fun c1 => ?_)
  · replace hf := it_t c1 hf
    exact b_X7_price_24 C G hA hR B N _ _ _ (lv_sub hl [0] rfl) hP hD hS hf
  · replace hf := it_f c1 hf
    refine lv_aload_n hx hb dX7_price_11 rfl (lv_at hl 0 rfl) ?_
    refine va_get (D := (dC, dI)) (ci := 7) (v := .ref (g 1)) (C := RX7) (T := TX7) (N := 11) hx hb hts in_X7_price_X7 hown hK hP 0 rfl rfl 0 (by decide) (hts (.fieldLink RX7 10 "BackLoans" "now" "LBackLoans$Town;") (by decide +kernel)) (fun _ h9 => h9) rfl dX7_price_12 ?_
    refine va_get (D := (dC, dI)) (ci := 5) (v := .ref (g 7)) (C := RX5) (T := TX5) (N := 17) hx hb hts in_X7_price_X5 hown hK hP 1 rfl rfl 12 (by decide) (hts (.fieldLink RX7 180 "BackLoans$Town" "times" "[I") (by decide +kernel)) (fun _ h9 => h9) rfl dX7_price_15 ?_
    refine lv_iload_n hx hb dX7_price_18 rfl (lv_at hl 1 rfl) ?_
    obtain ⟨hi2, hf⟩ := gi_e hf
    refine va_iald hx hb hK hP 7 0 rfl rfl hi2 dX7_price_19 ?_
    refine lv_iconst (v := 1) hx hb dX7_price_20 (by decide) ?_
    refine lv_icmp_ge (tgt := 29) hx hb dX7_price_21 (by decide) (fun c3 => ?_) (fun c3 => ?_)
    · replace hf := it_t c3 hf
      refine lv_aload_n hx hb dX7_price_29 rfl (lv_at hl 0 rfl) ?_
      refine va_get (D := (dC, dI)) (ci := 7) (v := .ref (g 1)) (C := RX7) (T := TX7) (N := 11) hx hb hts in_X7_price_X7 hown hK hP 0 rfl rfl 0 (by decide) (hts (.fieldLink RX7 10 "BackLoans" "now" "LBackLoans$Town;") (by decide +kernel)) (fun _ h9 => h9) rfl dX7_price_30 ?_
      refine lv_iload_n hx hb dX7_price_33 rfl (lv_at hl 1 rfl) ?_
      obtain ⟨r34, hr34, hf⟩ := bn_e hf
      have hPc := hP.sub (ws' := (wT cs (fun i => g (1 + i)) N)) [1, 2, 3, 4, 5, 6, 7, 8, 9, 10, 11] rfl
      refine vp_callSi (W.runV (As := [.int (x1)]) (rest := []) C (c_X5_givenPence l dC dI cs (fun i => g (1 + i)) N x1 r34 hr34) (cwV 1 hts gX7_price_X5_givenPence rfl rfl rfl (by decide +kernel) ⟨Nat.le_of_ble_eq_true rfl, Nat.le_of_ble_eq_true rfl⟩) ⟨(fun a U g mk q => ⟨q.1, q.2.1, GE.calling q.2.2⟩), va_recv hK hPc (ci := 5) (q0 := 0) rfl rfl, (fun U hU hW => ⟨rfl, by rw [hU]; exact hPc, GE.warm hW G⟩)⟩ rfl rfl hl.1 rfl (lv_room (Nat.le_of_ble_eq_true rfl)) dX7_price_34 ⟨Nat.le_of_ble_eq_true rfl, Nat.le_of_ble_eq_true rfl⟩) (fun qr34 hqr34 => ?_)
      obtain rfl := hqr34.symm
      refine lv_aload_n hx hb dX7_price_37 rfl (lv_at hl 0 rfl) ?_
      refine va_get (D := (dC, dI)) (ci := 7) (v := .ref (g 1)) (C := RX7) (T := TX7) (N := 11) hx hb hts in_X7_price_X7 hown hK hP 0 rfl rfl 0 (by decide) (hts (.fieldLink RX7 10 "BackLoans" "now" "LBackLoans$Town;") (by decide +kernel)) (fun _ h9 => h9) rfl dX7_price_38 ?_
      refine va_get (D := (dC, dI)) (ci := 5) (v := .ref (g 9)) (C := RX5) (T := TX5) (N := 17) hx hb hts in_X7_price_X5 hown hK hP 1 rfl rfl 14 (by decide) (hts (.fieldLink RX7 183 "BackLoans$Town" "given" "[I") (by decide +kernel)) (fun _ h9 => h9) rfl dX7_price_41 ?_
      refine lv_iload_n hx hb dX7_price_44 rfl (lv_at hl 1 rfl) ?_
      obtain ⟨hi4, hf⟩ := gi_e hf
      refine va_iald hx hb hK hP 9 0 rfl rfl hi4 dX7_price_45 ?_
      refine lv_imul hx hb dX7_price_46 ?_
      refine lv_aload_n hx hb dX7_price_47 rfl (lv_at hl 0 rfl) ?_
      refine va_get (D := (dC, dI)) (ci := 7) (v := .ref (g 1)) (C := RX7) (T := TX7) (N := 11) hx hb hts in_X7_price_X7 hown hK hP 0 rfl rfl 0 (by decide) (hts (.fieldLink RX7 10 "BackLoans" "now" "LBackLoans$Town;") (by decide +kernel)) (fun _ h9 => h9) rfl dX7_price_48 ?_
      refine va_get (D := (dC, dI)) (ci := 5) (v := .ref (g 7)) (C := RX5) (T := TX5) (N := 17) hx hb hts in_X7_price_X5 hown hK hP 1 rfl rfl 12 (by decide) (hts (.fieldLink RX7 180 "BackLoans$Town" "times" "[I") (by decide +kernel)) (fun _ h9 => h9) rfl dX7_price_51 ?_
      refine lv_iload_n hx hb dX7_price_54 rfl (lv_at hl 1 rfl) ?_
      obtain ⟨hi5, hf⟩ := gi_e hf
      refine va_iald hx hb hK hP 7 0 rfl rfl hi5 dX7_price_55 ?_
      obtain ⟨hz6, hf⟩ := gz_e hf
      refine lv_idiv hx hb dX7_price_56 hz6 ?_
      exact hR _ _ _ _ _ _ dX7_price_57 hf hP hD hS
    · replace hf := it_f c3 hf
      exact b_X7_price_24 C G hA hR B N _ _ _ (lv_sub hl [0] rfl) hP hD hS hf

theorem in_X7_luck_X5 : ∀ w ∈ wsX50, w ∈ wsX7_luck := by decide +kernel
theorem in_X7_luck_X7 : ∀ w ∈ wsX70, w ∈ wsX7_luck := by decide +kernel
def f_X7_luck_21 (B : Nat → Int32) (N : Tw) (K : Ch)  : Option (Int32 × (Nat → Int32) × Ch) :=
  bn (f_X7_bad B) fun r22 =>
  some (r22.1, (r22.2, K))
set_option maxHeartbeats 4000000 in
set_option maxRecDepth 100000 in
theorem b_X7_luck_21 {p : Program} {l : Launch} {e : Env} {s : State} {m : MethodId} {args : Array Value} {below : List Frame} {meth : Method} {c : Code} {Q : State → Prop} {dC : Nat → ClassId} {dI : Nat → Nat → Nat} {cs : Nat → ClassId} {A : Nat → Prop} {g : Nat → Nat} {res : Int32 × (Nat → Int32) × Ch} (C : CallFix p m c cX7_luck 3 s args wsX7_luck RX7) (G : GE dC dI cs s) (hA : ∀ q : Nat, s.heap.size ≤ q → A q) {N : Tw} (hR : RTi p l e ({ frames := 3, cells := 0, slots := 0, locals := 89 }) s m args below meth c cX7_luck Q (dC, dI) A (fun u : (Nat → Int32) × Ch => (wB g u.1 ++ wT cs (fun i => g (1 + i)) N ++ wC cs (fun i => g (60 + i)) u.2)) res) (B : Nat → Int32) (_ : Tw) (K : Ch)   (H : Heap) (locs : List Loc) (ls : Array Slot) (hl : lv_has ls 3 [(0, .ref (g 0))]) (hP : va_P (dC, dI) vwCl (wB g B ++ wT cs (fun i => g (1 + i)) N ++ wC cs (fun i => g (60 + i)) K) H) (hD : va_D A (wB g B ++ wT cs (fun i => g (1 + i)) N ++ wC cs (fun i => g (60 + i)) K)) (hS : va_S A s.heap H locs) (hf : f_X7_luck_21 B N K = some res) : W p l e ({ frames := 3, cells := 0, slots := 0, locals := 89 }) s m args below meth c H locs 0 0 Q (F0 m 21 ls []) := by
  obtain ⟨hx, hb, hml, hown, hts⟩ := id C
  obtain ⟨hK, hN⟩ := id G
  unfold f_X7_luck_21 at hf
  refine lv_aload_n hx hb dX7_luck_21 rfl (lv_at hl 0 rfl) ?_
  obtain ⟨r22, hr22, hf⟩ := bn_e hf
  have hPc := hP.sub (ws' := (wB g B)) [0] rfl
  have hDc := hD.sub (ws' := (wB g B)) [0] (by decide) rfl
  have hFc := va_free (wc := (wB g B)) hD hS hA [0] rfl
  refine va_calli (va_runV (As := []) (rest := []) C (c_X7_bad l dC dI cs g H.size B r22 hr22) (cwV 0 hts gX7_luck_X7_bad rfl rfl rfl (by decide +kernel) ⟨Nat.le_of_ble_eq_true rfl, Nat.le_of_ble_eq_true rfl⟩) ⟨(fun a U g mk q => ⟨q.1, q.2.1, q.2.2.1, GE.calling q.2.2.2.1, q.2.2.2.2⟩), va_recv hK hPc (ci := 7) (q0 := 0) rfl rfl, (fun U hU hW => ⟨rfl, by rw [hU], by rw [hU]; exact hPc, GE.warm hW G, hDc.weaken (fun _ _ _ _ => trivial)⟩)⟩ rfl rfl hl.1 rfl (lv_room (Nat.le_of_ble_eq_true rfl)) dX7_luck_22 ⟨Nat.le_of_ble_eq_true rfl, Nat.le_of_ble_eq_true rfl⟩) hS (fun q _ h => hFc q h) hFc (fun q u t H1 locs ht hvm hw hB hz1 hk1 hS => ?_)
  obtain ⟨rfl, rfl⟩ := hw
  obtain ⟨hP1, hD1⟩ := hB
  rw [ht] at hP1
  obtain ⟨hP, hD⟩ := va_join (wr := [1, 2, 3, 4, 5, 6, 7, 8, 9, 10, 11, 12, 13].filterMap (fun i => ((wB g B ++ wT cs (fun i => g (1 + i)) N ++ wC cs (fun i => g (60 + i)) K))[i]?)) (w1 := (wB g r22.2)) hP hD [0] [1, 2, 3, 4, 5, 6, 7, 8, 9, 10, 11, 12, 13] rfl rfl (by decide) (by decide) hk1 hFc hP1 hD1
  generalize H1 = H at hP hS ⊢
  have hP := hP.sub (ws' := (wB g r22.2 ++ wT cs (fun i => g (1 + i)) N ++ wC cs (fun i => g (60 + i)) K)) [13, 0, 1, 2, 3, 4, 5, 6, 7, 8, 9, 10, 11, 12] rfl
  have hD := hD.sub (ws' := (wB g r22.2 ++ wT cs (fun i => g (1 + i)) N ++ wC cs (fun i => g (60 + i)) K)) [13, 0, 1, 2, 3, 4, 5, 6, 7, 8, 9, 10, 11, 12] (by decide) rfl
  exact hR _ _ _ _ _ _ dX7_luck_25 hf hP hD hS
def f_X7_luck (x1 : Int32) (x2 : Int32) (B : Nat → Int32) (N : Tw) (K : Ch) : Option (Int32 × (Nat → Int32) × Ch) :=
  bn (f_X5_hasLoan x1 N) fun r5 =>
  if r5 = 0 then (
    f_X7_luck_21 B N K
  ) else (
    bn (f_X7_within x2 (0 : Int32) (10 : Int32)) fun r15 =>
    if r15 = 0 then (
      f_X7_luck_21 B N K
    ) else (
      gi (x1) 8 <|
      if ((N.2 6) (x1).toNatClampNeg) = 0 then (
        bn (f_X0_giveToTheEnd x1 x2 K N) fun r53 =>
        some ((1 : Int32), (B, r53))
      ) else (
        bn (f_X7_no B) fun r39 =>
        some (r39.1, (r39.2, K))
      )
    )
  )
set_option maxHeartbeats 4000000 in
set_option maxRecDepth 100000 in
theorem c_X7_luck (l : Launch) (dC : Nat → ClassId) (dI : Nat → Nat → Nat) (cs : Nat → ClassId) (g : Nat → Nat) (sz : Nat) (B : Nat → Int32) (N : Tw) (K : Ch) (x1 : Int32) (x2 : Int32) (res : Int32 × (Nat → Int32) × Ch) (hf : f_X7_luck x1 x2 B N K = some res) : Met l yX7_luck wsX7_luck ({ frames := 3, cells := 0, slots := 0, locals := 89 }) (va_Pc [.ref (g 0), .int (x1), .int (x2)] (fun U => U.heap.size = sz ∧ va_P (dC, dI) vwCl (wB g B ++ wT cs (fun i => g (1 + i)) N ++ wC cs (fun i => g (60 + i)) K) U.heap ∧ GE dC dI cs U ∧ va_D (fun _ => True) (wB g B ++ wT cs (fun i => g (1 + i)) N ++ wC cs (fun i => g (60 + i)) K))) (va_Qi (fun r (u : (Nat → Int32) × Ch) => r = res.1 ∧ u = res.2) (fun u t => va_P (dC, dI) vwCl ((fun u : (Nat → Int32) × Ch => (wB g u.1 ++ wT cs (fun i => g (1 + i)) N ++ wC cs (fun i => g (60 + i)) u.2)) u) t.heap ∧ va_D (va_A (wB g B ++ wT cs (fun i => g (1 + i)) N ++ wC cs (fun i => g (60 + i)) K) sz) ((fun u : (Nat → Int32) × Ch => (wB g u.1 ++ wT cs (fun i => g (1 + i)) N ++ wC cs (fun i => g (60 + i)) u.2)) u)) (va_A (wB g B ++ wT cs (fun i => g (1 + i)) N ++ wC cs (fun i => g (60 + i)) K) sz)) 0 0 (va_A (wB g B ++ wT cs (fun i => g (1 + i)) N ++ wC cs (fun i => g (60 + i)) K) sz) := by
  refine Met.ofW (cc := cX7_luck) (maxL := 3) (ret := (some .int)) (by decide) rfl ?_
  intro p e s m args below meth c s₁ Bd hml hv
  obtain ⟨rfl, hsz, hP, G, hD0⟩ := hv
  have hts := atoms_spec (ws := wsX7_luck) Bd.pre
  have hown : s.vm.findClass RX7 = some m.cls := findClass_of_methodNamed Bd.named
  have hlocks := Bd.notSynchronized
  have hx := Bd.exec
  have hb := Bd.bytes
  have hr := Bd.returns
  have C : CallFix p m c cX7_luck 3 s _ wsX7_luck RX7 := ⟨hx, hb, hml, hown, hts⟩
  obtain ⟨hK, hN⟩ := id G
  subst hsz
  have hD := hD0.self (sz := s.heap.size)
  generalize hAe : va_A (wB g B ++ wT cs (fun i => g (1 + i)) N ++ wC cs (fun i => g (60 + i)) K) s.heap.size = A at hD ⊢
  have hA : ∀ q : Nat, s.heap.size ≤ q → A q := fun q h => by rw [← hAe]; exact Or.inr h
  have hS : va_S A s.heap s.heap [] := va_S.rf
  have hR : RTi p l e ({ frames := 3, cells := 0, slots := 0, locals := 89 }) s m ([.ref (g 0), .int (x1), .int (x2)] : List Value).toArray below meth c cX7_luck (MQ below (va_Qi (fun r (u : (Nat → Int32) × Ch) => r = res.1 ∧ u = res.2) (fun u t => va_P (dC, dI) vwCl ((fun u : (Nat → Int32) × Ch => (wB g u.1 ++ wT cs (fun i => g (1 + i)) N ++ wC cs (fun i => g (60 + i)) u.2)) u) t.heap ∧ va_D A ((fun u : (Nat → Int32) × Ch => (wB g u.1 ++ wT cs (fun i => g (1 + i)) N ++ wC cs (fun i => g (60 + i)) u.2)) u)) A) ([.ref (g 0), .int (x1), .int (x2)] : List Value).toArray s 0 0 A) (dC, dI) A (fun u : (Nat → Int32) × Ch => (wB g u.1 ++ wT cs (fun i => g (1 + i)) N ++ wC cs (fun i => g (60 + i)) u.2)) res := fun H locs pc ls r u dd h hP hD hS => W.iret hx hb hr (fun t ht hW => ⟨⟨r, u, rfl, by cases h; exact ⟨rfl, rfl⟩, by rw [ht]; exact hP, hD⟩, hS.F ht⟩) hS.2.2 dd
  have hl := lv_entry ([.ref (g 0), .int (x1), .int (x2)]) (n := 3) (Nat.le_of_ble_eq_true rfl)
  rw [lg_entry_eq]
  generalize (lg_sl ([.ref (g 0), .int (x1), .int (x2)]) ++ List.replicate (3 - (lg_sl ([.ref (g 0), .int (x1), .int (x2)])).length) Slot.unset).toArray = ls at hl ⊢
  have hl : lv_has ls 3 [(0, .ref (g 0)), (1, .int (x1)), (2, .int (x2))] := hl
  unfold f_X7_luck at hf
  refine lv_aload_n hx hb dX7_luck_0 rfl (lv_at hl 0 rfl) ?_
  refine va_get (D := (dC, dI)) (ci := 7) (v := .ref (g 1)) (C := RX7) (T := TX7) (N := 11) hx hb hts in_X7_luck_X7 hown hK hP 0 rfl rfl 0 (by decide) (hts (.fieldLink RX7 10 "BackLoans" "now" "LBackLoans$Town;") (by decide +kernel)) (fun _ h9 => h9) rfl dX7_luck_1 ?_
  refine lv_iload_n hx hb dX7_luck_4 rfl (lv_at hl 1 rfl) ?_
  obtain ⟨r5, hr5, hf⟩ := bn_e hf
  have hPc := hP.sub (ws' := (wT cs (fun i => g (1 + i)) N)) [1, 2, 3, 4, 5, 6, 7, 8, 9, 10, 11] rfl
  refine vp_callSi (W.runV (As := [.int (x1)]) (rest := []) C (c_X5_hasLoan l dC dI cs (fun i => g (1 + i)) N x1 r5 hr5) (cwV 1 hts gX7_luck_X5_hasLoan rfl rfl rfl (by decide +kernel) ⟨Nat.le_of_ble_eq_true rfl, Nat.le_of_ble_eq_true rfl⟩) ⟨(fun a U g mk q => ⟨q.1, q.2.1, GE.calling q.2.2⟩), va_recv hK hPc (ci := 5) (q0 := 0) rfl rfl, (fun U hU hW => ⟨rfl, by rw [hU]; exact hPc, GE.warm hW G⟩)⟩ rfl rfl hl.1 rfl (lv_room (Nat.le_of_ble_eq_true rfl)) dX7_luck_5 ⟨Nat.le_of_ble_eq_true rfl, Nat.le_of_ble_eq_true rfl⟩) (fun qr5 hqr5 => ?_)
  obtain ⟨hqr5, hnr5⟩ := hqr5
  obtain rfl := hqr5.symm
  refine lv_if_eq (tgt := 21) hx hb dX7_luck_8 (by decide) (fun c1 => ?_) (fun c1 => ?_)
  · replace hf := it_t c1 hf
    exact b_X7_luck_21 C G hA hR B N K _ _ _ (lv_sub hl [0] rfl) hP hD hS hf
  · replace hf := it_f c1 hf
    refine lv_iload_n hx hb dX7_luck_11 rfl (lv_at hl 2 rfl) ?_
    refine lv_iconst (v := 0) hx hb dX7_luck_12 (by decide) ?_
    refine lv_bipush (v := 10) hx hb dX7_luck_13 (by decide) ?_
    obtain ⟨r15, hr15, hf⟩ := bn_e hf
    have hPc := hP.sub (ws' := ([] : va_W)) [] rfl
    refine vp_callSi (W.runS (As := [.int (x2), .int ((0 : Int32)), .int ((10 : Int32))]) (rest := []) C (c_X7_within l dC dI cs x2 (0 : Int32) (10 : Int32) r15 hr15) (va_cwS 3 hts gX7_luck_X7_within rfl rfl rfl (by decide +kernel) ⟨Nat.le_of_ble_eq_true rfl, Nat.le_of_ble_eq_true rfl⟩) ⟨(fun a U g mk q => ⟨q.1, q.2.1, GE.calling q.2.2⟩), (fun U hU hW => ⟨rfl, by rw [hU]; exact hPc, GE.warm hW G⟩)⟩ rfl rfl hl.1 rfl (lv_room (Nat.le_of_ble_eq_true rfl)) dX7_luck_15 ⟨Nat.le_of_ble_eq_true rfl, Nat.le_of_ble_eq_true rfl⟩) (fun qr15 hqr15 => ?_)
    obtain ⟨hqr15, hnr15⟩ := hqr15
    obtain rfl := hqr15.symm
    refine lv_if_ne (tgt := 26) hx hb dX7_luck_18 (by decide) (fun c2 => ?_) (fun c2 => ?_)
    · replace hf := it_f c2 hf
      refine lv_aload_n hx hb dX7_luck_26 rfl (lv_at hl 0 rfl) ?_
      refine va_get (D := (dC, dI)) (ci := 7) (v := .ref (g 1)) (C := RX7) (T := TX7) (N := 11) hx hb hts in_X7_luck_X7 hown hK hP 0 rfl rfl 0 (by decide) (hts (.fieldLink RX7 10 "BackLoans" "now" "LBackLoans$Town;") (by decide +kernel)) (fun _ h9 => h9) rfl dX7_luck_27 ?_
      refine va_get (D := (dC, dI)) (ci := 5) (v := .ref (g 8)) (C := RX5) (T := TX5) (N := 17) hx hb hts in_X7_luck_X5 hown hK hP 1 rfl rfl 13 (by decide) (hts (.fieldLink RX7 150 "BackLoans$Town" "state" "[I") (by decide +kernel)) (fun _ h9 => h9) rfl dX7_luck_30 ?_
      refine lv_iload_n hx hb dX7_luck_33 rfl (lv_at hl 1 rfl) ?_
      obtain ⟨hi3, hf⟩ := gi_e hf
      refine va_iald hx hb hK hP 8 0 rfl rfl hi3 dX7_luck_34 ?_
      refine lv_if_eq (tgt := 43) hx hb dX7_luck_35 (by decide) (fun c4 => ?_) (fun c4 => ?_)
      · replace hf := it_t c4 hf
        refine lv_aload_n hx hb dX7_luck_43 rfl (lv_at hl 0 rfl) ?_
        refine va_get (D := (dC, dI)) (ci := 7) (v := .ref (g 60)) (C := RX7) (T := TX7) (N := 11) hx hb hts in_X7_luck_X7 hown hK hP 0 rfl rfl 7 (by decide) (hts (.fieldLink RX7 57 "BackLoans" "chance" "LBackLoans$Chance;") (by decide +kernel)) (fun _ h9 => h9) rfl dX7_luck_44 ?_
        refine lv_aload_n hx hb dX7_luck_47 rfl (lv_at hl 0 rfl) ?_
        refine va_get (D := (dC, dI)) (ci := 7) (v := .ref (g 1)) (C := RX7) (T := TX7) (N := 11) hx hb hts in_X7_luck_X7 hown hK hP 0 rfl rfl 0 (by decide) (hts (.fieldLink RX7 10 "BackLoans" "now" "LBackLoans$Town;") (by decide +kernel)) (fun _ h9 => h9) rfl dX7_luck_48 ?_
        refine lv_iload_n hx hb dX7_luck_51 rfl (lv_at hl 1 rfl) ?_
        refine lv_iload_n hx hb dX7_luck_52 rfl (lv_at hl 2 rfl) ?_
        obtain ⟨r53, hr53, hf⟩ := bn_e hf
        have hPc := hP.sub (ws' := (wC cs (fun i => g (60 + i)) K ++ wT cs (fun i => g (1 + i)) N)) [12, 13, 1, 2, 3, 4, 5, 6, 7, 8, 9, 10, 11] rfl
        have hDc := hD.sub (ws' := (wC cs (fun i => g (60 + i)) K ++ wT cs (fun i => g (1 + i)) N)) [12, 13, 1, 2, 3, 4, 5, 6, 7, 8, 9, 10, 11] (by decide) rfl
        have hFc := va_free (wc := (wC cs (fun i => g (60 + i)) K ++ wT cs (fun i => g (1 + i)) N)) hD hS hA [12, 13, 1, 2, 3, 4, 5, 6, 7, 8, 9, 10, 11] rfl
        refine va_callv (va_runV (As := [.ref (g 1), .int (x1), .int (x2)]) (rest := []) C (c_X0_giveToTheEnd l dC dI cs (fun i => g (60 + i)) (fun i => g (1 + i)) s.heap.size K N x1 x2 r53 hr53) (cwV 3 hts gX7_luck_X0_giveToTheEnd rfl rfl rfl (by decide +kernel) ⟨Nat.le_of_ble_eq_true rfl, Nat.le_of_ble_eq_true rfl⟩) ⟨(fun a U g mk q => ⟨q.1, q.2.1, q.2.2.1, GE.calling q.2.2.2.1, q.2.2.2.2⟩), va_recv hK hPc (ci := 0) (q0 := 0) rfl rfl, (fun U hU hW => ⟨rfl, by rw [hU], by rw [hU]; exact hPc, GE.warm hW G, hDc.weaken (fun _ _ _ _ => trivial)⟩)⟩ rfl rfl hl.1 rfl (lv_room (Nat.le_of_ble_eq_true rfl)) dX7_luck_53 ⟨Nat.le_of_ble_eq_true rfl, Nat.le_of_ble_eq_true rfl⟩) hS (fun q _ h => hFc q h) hFc (fun u t H1 locs ht hvm hw hB hz1 hk1 hS => ?_)
        obtain rfl := hw.symm
        obtain ⟨hP1, hD1⟩ := hB
        rw [ht] at hP1
        obtain ⟨hP, hD⟩ := va_join (wr := [0].filterMap (fun i => ((wB g B ++ wT cs (fun i => g (1 + i)) N ++ wC cs (fun i => g (60 + i)) K))[i]?)) (w1 := (wC cs (fun i => g (60 + i)) r53 ++ wT cs (fun i => g (1 + i)) N)) hP hD [12, 13, 1, 2, 3, 4, 5, 6, 7, 8, 9, 10, 11] [0] rfl rfl (by decide) (by decide) hk1 hFc hP1 hD1
        generalize H1 = H at hP hS ⊢
        have hP := hP.sub (ws' := (wB g B ++ wT cs (fun i => g (1 + i)) N ++ wC cs (fun i => g (60 + i)) r53)) [0, 3, 4, 5, 6, 7, 8, 9, 10, 11, 12, 13, 1, 2] rfl
        have hD := hD.sub (ws' := (wB g B ++ wT cs (fun i => g (1 + i)) N ++ wC cs (fun i => g (60 + i)) r53)) [0, 3, 4, 5, 6, 7, 8, 9, 10, 11, 12, 13, 1, 2] (by decide) rfl
        refine lv_iconst (v := 1) hx hb dX7_luck_56 (by decide) ?_
        exact hR _ _ _ _ _ _ dX7_luck_57 hf hP hD hS
      · replace hf := it_f c4 hf
        refine lv_aload_n hx hb dX7_luck_38 rfl (lv_at hl 0 rfl) ?_
        obtain ⟨r39, hr39, hf⟩ := bn_e hf
        have hPc := hP.sub (ws' := (wB g B)) [0] rfl
        have hDc := hD.sub (ws' := (wB g B)) [0] (by decide) rfl
        have hFc := va_free (wc := (wB g B)) hD hS hA [0] rfl
        refine va_calli (va_runV (As := []) (rest := []) C (c_X7_no l dC dI cs g s.heap.size B r39 hr39) (cwV 0 hts gX7_luck_X7_no rfl rfl rfl (by decide +kernel) ⟨Nat.le_of_ble_eq_true rfl, Nat.le_of_ble_eq_true rfl⟩) ⟨(fun a U g mk q => ⟨q.1, q.2.1, q.2.2.1, GE.calling q.2.2.2.1, q.2.2.2.2⟩), va_recv hK hPc (ci := 7) (q0 := 0) rfl rfl, (fun U hU hW => ⟨rfl, by rw [hU], by rw [hU]; exact hPc, GE.warm hW G, hDc.weaken (fun _ _ _ _ => trivial)⟩)⟩ rfl rfl hl.1 rfl (lv_room (Nat.le_of_ble_eq_true rfl)) dX7_luck_39 ⟨Nat.le_of_ble_eq_true rfl, Nat.le_of_ble_eq_true rfl⟩) hS (fun q _ h => hFc q h) hFc (fun q u t H1 locs ht hvm hw hB hz1 hk1 hS => ?_)
        obtain ⟨rfl, rfl⟩ := hw
        obtain ⟨hP1, hD1⟩ := hB
        rw [ht] at hP1
        obtain ⟨hP, hD⟩ := va_join (wr := [1, 2, 3, 4, 5, 6, 7, 8, 9, 10, 11, 12, 13].filterMap (fun i => ((wB g B ++ wT cs (fun i => g (1 + i)) N ++ wC cs (fun i => g (60 + i)) K))[i]?)) (w1 := (wB g r39.2)) hP hD [0] [1, 2, 3, 4, 5, 6, 7, 8, 9, 10, 11, 12, 13] rfl rfl (by decide) (by decide) hk1 hFc hP1 hD1
        generalize H1 = H at hP hS ⊢
        have hP := hP.sub (ws' := (wB g r39.2 ++ wT cs (fun i => g (1 + i)) N ++ wC cs (fun i => g (60 + i)) K)) [13, 0, 1, 2, 3, 4, 5, 6, 7, 8, 9, 10, 11, 12] rfl
        have hD := hD.sub (ws' := (wB g r39.2 ++ wT cs (fun i => g (1 + i)) N ++ wC cs (fun i => g (60 + i)) K)) [13, 0, 1, 2, 3, 4, 5, 6, 7, 8, 9, 10, 11, 12] (by decide) rfl
        exact hR _ _ _ _ _ _ dX7_luck_42 hf hP hD hS
    · replace hf := it_t c2 hf
      exact b_X7_luck_21 C G hA hR B N K _ _ _ (lv_sub hl [0] rfl) hP hD hS hf

theorem in_X7_drawn_X7 : ∀ w ∈ wsX70, w ∈ wsX7_drawn := by decide +kernel
def f_X7_drawn_86 (s1 : Int32) (B : Nat → Int32) (N : Tw) (R : Tw)  : Option (Int32 × (Nat → Int32) × Tw) :=
  bn (f_X5_howManyAre s1 R) fun r86 =>
  some (r86, (B, R))
set_option maxHeartbeats 4000000 in
set_option maxRecDepth 100000 in
theorem b_X7_drawn_86 {p : Program} {l : Launch} {e : Env} {s : State} {m : MethodId} {args : Array Value} {below : List Frame} {meth : Method} {c : Code} {Q : State → Prop} {dC : Nat → ClassId} {dI : Nat → Nat → Nat} {cs : Nat → ClassId} {A : Nat → Prop} {g : Nat → Nat} {res : Int32 × (Nat → Int32) × Tw} (C : CallFix p m c cX7_drawn 7 s args wsX7_drawn RX7) (G : GE dC dI cs s) (hA : ∀ q : Nat, s.heap.size ≤ q → A q) {N : Tw} (hR : RTi p l e ({ frames := 5, cells := 0, slots := 0, locals := 117 }) s m args below meth c cX7_drawn Q (dC, dI) A (fun u : (Nat → Int32) × Tw => (wB g u.1 ++ wT cs (fun i => g (1 + i)) N ++ wF (g 44) (g 45) ++ wT cs (fun i => g (45 + i)) u.2)) res) (s1 : Int32) (B : Nat → Int32) (_ : Tw) (R : Tw)   (H : Heap) (locs : List Loc) (ls : Array Slot) (hl : lv_has ls 7 []) (hP : va_P (dC, dI) vwCl (wB g B ++ wT cs (fun i => g (1 + i)) N ++ wF (g 44) (g 45) ++ wT cs (fun i => g (45 + i)) R) H) (hD : va_D A (wB g B ++ wT cs (fun i => g (1 + i)) N ++ wF (g 44) (g 45) ++ wT cs (fun i => g (45 + i)) R)) (hS : va_S A s.heap H locs) (hf : f_X7_drawn_86 s1 B N R = some res) : W p l e ({ frames := 5, cells := 0, slots := 0, locals := 117 }) s m args below meth c H locs 0 0 Q (F0 m 86 ls [.int (s1), .ref (g 45)]) := by
  obtain ⟨hx, hb, hml, hown, hts⟩ := id C
  obtain ⟨hK, hN⟩ := id G
  unfold f_X7_drawn_86 at hf
  obtain ⟨r86, hr86, hf⟩ := bn_e hf
  have hPc := hP.sub (ws' := (wT cs (fun i => g (45 + i)) R)) [13, 14, 15, 16, 17, 18, 19, 20, 21, 22, 23] rfl
  refine vp_callSi (W.runV (As := [.int (s1)]) (rest := []) C (c_X5_howManyAre l dC dI cs (fun i => g (45 + i)) R s1 r86 hr86) (cwV 1 hts gX7_drawn_X5_howManyAre rfl rfl rfl (by decide +kernel) ⟨Nat.le_of_ble_eq_true rfl, Nat.le_of_ble_eq_true rfl⟩) ⟨(fun a U g mk q => ⟨q.1, q.2.1, GE.calling q.2.2⟩), va_recv hK hPc (ci := 5) (q0 := 0) rfl rfl, (fun U hU hW => ⟨rfl, by rw [hU]; exact hPc, GE.warm hW G⟩)⟩ rfl rfl hl.1 rfl (lv_room (Nat.le_of_ble_eq_true rfl)) dX7_drawn_86 ⟨Nat.le_of_ble_eq_true rfl, Nat.le_of_ble_eq_true rfl⟩) (fun qr86 hqr86 => ?_)
  obtain rfl := hqr86.symm
  exact hR _ _ _ _ _ _ dX7_drawn_89 hf hP hD hS
def f_X7_drawn_46 (x1 : Int32) (x2 : Int32) (x3 : Int32) (x4 : Int32) (s0 : Int32) (B : Nat → Int32) (N : Tw) (R : Tw)  : Option (Int32 × (Nat → Int32) × Tw) :=
  if s0 = 0 then (
    bn (f_X7_bad B) fun r54 =>
    some (r54.1, (r54.2, R))
  ) else (
    bn (f_X1_drawMonths x1 x2 x3 R N) fun r69 =>
    if x4 = 0 then (
      f_X7_drawn_86 (1 : Int32) B N r69
    ) else (
      f_X7_drawn_86 (2 : Int32) B N r69
    )
  )
set_option maxHeartbeats 4000000 in
set_option maxRecDepth 100000 in
theorem b_X7_drawn_46 {p : Program} {l : Launch} {e : Env} {s : State} {m : MethodId} {args : Array Value} {below : List Frame} {meth : Method} {c : Code} {Q : State → Prop} {dC : Nat → ClassId} {dI : Nat → Nat → Nat} {cs : Nat → ClassId} {A : Nat → Prop} {g : Nat → Nat} {res : Int32 × (Nat → Int32) × Tw} (C : CallFix p m c cX7_drawn 7 s args wsX7_drawn RX7) (G : GE dC dI cs s) (hA : ∀ q : Nat, s.heap.size ≤ q → A q) {N : Tw} (hR : RTi p l e ({ frames := 5, cells := 0, slots := 0, locals := 117 }) s m args below meth c cX7_drawn Q (dC, dI) A (fun u : (Nat → Int32) × Tw => (wB g u.1 ++ wT cs (fun i => g (1 + i)) N ++ wF (g 44) (g 45) ++ wT cs (fun i => g (45 + i)) u.2)) res) (x1 : Int32) (x2 : Int32) (x3 : Int32) (x4 : Int32) (s0 : Int32) (B : Nat → Int32) (_ : Tw) (R : Tw)   (H : Heap) (locs : List Loc) (ls : Array Slot) (hl : lv_has ls 7 [(0, .ref (g 0)), (1, .int (x1)), (2, .int (x2)), (3, .int (x3)), (4, .int (x4))]) (hP : va_P (dC, dI) vwCl (wB g B ++ wT cs (fun i => g (1 + i)) N ++ wF (g 44) (g 45) ++ wT cs (fun i => g (45 + i)) R) H) (hD : va_D A (wB g B ++ wT cs (fun i => g (1 + i)) N ++ wF (g 44) (g 45) ++ wT cs (fun i => g (45 + i)) R)) (hS : va_S A s.heap H locs) (hf : f_X7_drawn_46 x1 x2 x3 x4 s0 B N R = some res) : W p l e ({ frames := 5, cells := 0, slots := 0, locals := 117 }) s m args below meth c H locs 0 0 Q (F0 m 46 ls [.int (s0)]) := by
  obtain ⟨hx, hb, hml, hown, hts⟩ := id C
  obtain ⟨hK, hN⟩ := id G
  unfold f_X7_drawn_46 at hf
  refine lv_istore (lv' := [(5, .int (s0)), (0, .ref (g 0)), (1, .int (x1)), (2, .int (x2)), (3, .int (x3)), (4, .int (x4))]) hx hb dX7_drawn_46 hl (by decide) rfl (fun ls hl => ?_)
  refine lv_iload hx hb dX7_drawn_48 (lv_at hl 0 rfl) ?_
  refine lv_if_ne (tgt := 58) hx hb dX7_drawn_50 (by decide) (fun c1 => ?_) (fun c1 => ?_)
  · replace hf := it_f c1 hf
    refine lv_aload_n hx hb dX7_drawn_58 rfl (lv_at hl 1 rfl) ?_
    refine va_get (D := (dC, dI)) (ci := 7) (v := .ref (g 44)) (C := RX7) (T := TX7) (N := 11) hx hb hts in_X7_drawn_X7 hown hK hP 0 rfl rfl 5 (by decide) (hts (.fieldLink RX7 43 "BackLoans" "foresight" "LBackLoans$Foresight;") (by decide +kernel)) (fun _ h9 => h9) rfl dX7_drawn_59 ?_
    refine lv_aload_n hx hb dX7_drawn_62 rfl (lv_at hl 1 rfl) ?_
    refine va_get (D := (dC, dI)) (ci := 7) (v := .ref (g 1)) (C := RX7) (T := TX7) (N := 11) hx hb hts in_X7_drawn_X7 hown hK hP 0 rfl rfl 0 (by decide) (hts (.fieldLink RX7 10 "BackLoans" "now" "LBackLoans$Town;") (by decide +kernel)) (fun _ h9 => h9) rfl dX7_drawn_63 ?_
    refine lv_iload_n hx hb dX7_drawn_66 rfl (lv_at hl 2 rfl) ?_
    refine lv_iload_n hx hb dX7_drawn_67 rfl (lv_at hl 3 rfl) ?_
    refine lv_iload_n hx hb dX7_drawn_68 rfl (lv_at hl 4 rfl) ?_
    obtain ⟨r69, hr69, hf⟩ := bn_e hf
    have hPc := hP.sub (ws' := (wF (g 44) (g 45) ++ wT cs (fun i => g (45 + i)) R ++ wT cs (fun i => g (1 + i)) N)) [12, 13, 14, 15, 16, 17, 18, 19, 20, 21, 22, 23, 1, 2, 3, 4, 5, 6, 7, 8, 9, 10, 11] rfl
    have hDc := hD.sub (ws' := (wF (g 44) (g 45) ++ wT cs (fun i => g (45 + i)) R ++ wT cs (fun i => g (1 + i)) N)) [12, 13, 14, 15, 16, 17, 18, 19, 20, 21, 22, 23, 1, 2, 3, 4, 5, 6, 7, 8, 9, 10, 11] (by decide) rfl
    have hFc := va_free (wc := (wF (g 44) (g 45) ++ wT cs (fun i => g (45 + i)) R ++ wT cs (fun i => g (1 + i)) N)) hD hS hA [12, 13, 14, 15, 16, 17, 18, 19, 20, 21, 22, 23, 1, 2, 3, 4, 5, 6, 7, 8, 9, 10, 11] rfl
    refine va_callr (va_runV (As := [.ref (g 1), .int (x1), .int (x2), .int (x3)]) (rest := []) C (c_X1_drawMonths l dC dI cs (fun i => g (44 + i)) (fun i => g (45 + i)) (fun i => g (1 + i)) H.size R N x1 x2 x3 r69 hr69) (cwV 4 hts gX7_drawn_X1_drawMonths rfl rfl rfl (by decide +kernel) ⟨Nat.le_of_ble_eq_true rfl, Nat.le_of_ble_eq_true rfl⟩) ⟨(fun a U g mk q => ⟨q.1, q.2.1, q.2.2.1, GE.calling q.2.2.2.1, q.2.2.2.2⟩), va_recv hK hPc (ci := 1) (q0 := 0) rfl rfl, (fun U hU hW => ⟨rfl, by rw [hU], by rw [hU]; exact hPc, GE.warm hW G, hDc.weaken (fun _ _ _ _ => trivial)⟩)⟩ rfl rfl hl.1 rfl (lv_room (Nat.le_of_ble_eq_true rfl)) dX7_drawn_69 ⟨Nat.le_of_ble_eq_true rfl, Nat.le_of_ble_eq_true rfl⟩) hS (fun q _ h => hFc q h) hFc (fun u q t H1 locs ht hvm hw hB hz1 hk1 hS => ?_)
    obtain rfl := hw.symm
    obtain ⟨rfl, hP1, hD1⟩ := hB
    rw [ht] at hP1
    obtain ⟨hP, hD⟩ := va_join (wr := [0].filterMap (fun i => ((wB g B ++ wT cs (fun i => g (1 + i)) N ++ wF (g 44) (g 45) ++ wT cs (fun i => g (45 + i)) R))[i]?)) (w1 := (wF (g 44) (g 45) ++ wT cs (fun i => g (45 + i)) r69 ++ wT cs (fun i => g (1 + i)) N)) hP hD [12, 13, 14, 15, 16, 17, 18, 19, 20, 21, 22, 23, 1, 2, 3, 4, 5, 6, 7, 8, 9, 10, 11] [0] rfl rfl (by decide) (by decide) hk1 hFc hP1 hD1
    generalize H1 = H at hP hS ⊢
    have hP := hP.sub (ws' := (wB g B ++ wT cs (fun i => g (1 + i)) N ++ wF (g 44) (g 45) ++ wT cs (fun i => g (45 + i)) r69)) [0, 13, 14, 15, 16, 17, 18, 19, 20, 21, 22, 23, 1, 2, 3, 4, 5, 6, 7, 8, 9, 10, 11, 12] rfl
    have hD := hD.sub (ws' := (wB g B ++ wT cs (fun i => g (1 + i)) N ++ wF (g 44) (g 45) ++ wT cs (fun i => g (45 + i)) r69)) [0, 13, 14, 15, 16, 17, 18, 19, 20, 21, 22, 23, 1, 2, 3, 4, 5, 6, 7, 8, 9, 10, 11, 12] (by decide) rfl
    refine lv_astore (lv' := [(6, .ref (g 45)), (5, .int (s0)), (0, .ref (g 0)), (1, .int (x1)), (2, .int (x2)), (3, .int (x3)), (4, .int (x4))]) hx hb dX7_drawn_72 hl (by decide) rfl (fun ls hl => ?_)
    refine lv_aload hx hb dX7_drawn_74 (lv_at hl 0 rfl) ?_
    refine lv_iload hx hb dX7_drawn_76 (lv_at hl 6 rfl) ?_
    refine lv_if_ne (tgt := 85) hx hb dX7_drawn_78 (by decide) (fun c2 => ?_) (fun c2 => ?_)
    · replace hf := it_f c2 hf
      refine lv_iconst (v := 2) hx hb dX7_drawn_85 (by decide) ?_
      exact b_X7_drawn_86 C G hA hR (2 : Int32) B N r69 _ _ _ (lv_sub hl [] rfl) hP hD hS hf
    · replace hf := it_t c2 hf
      refine lv_iconst (v := 1) hx hb dX7_drawn_81 (by decide) ?_
      refine lv_goto (tgt := 86) hx hb dX7_drawn_82 (by decide) ?_
      exact b_X7_drawn_86 C G hA hR (1 : Int32) B N r69 _ _ _ (lv_sub hl [] rfl) hP hD hS hf
  · replace hf := it_t c1 hf
    refine lv_aload_n hx hb dX7_drawn_53 rfl (lv_at hl 1 rfl) ?_
    obtain ⟨r54, hr54, hf⟩ := bn_e hf
    have hPc := hP.sub (ws' := (wB g B)) [0] rfl
    have hDc := hD.sub (ws' := (wB g B)) [0] (by decide) rfl
    have hFc := va_free (wc := (wB g B)) hD hS hA [0] rfl
    refine va_calli (va_runV (As := []) (rest := []) C (c_X7_bad l dC dI cs g H.size B r54 hr54) (cwV 0 hts gX7_drawn_X7_bad rfl rfl rfl (by decide +kernel) ⟨Nat.le_of_ble_eq_true rfl, Nat.le_of_ble_eq_true rfl⟩) ⟨(fun a U g mk q => ⟨q.1, q.2.1, q.2.2.1, GE.calling q.2.2.2.1, q.2.2.2.2⟩), va_recv hK hPc (ci := 7) (q0 := 0) rfl rfl, (fun U hU hW => ⟨rfl, by rw [hU], by rw [hU]; exact hPc, GE.warm hW G, hDc.weaken (fun _ _ _ _ => trivial)⟩)⟩ rfl rfl hl.1 rfl (lv_room (Nat.le_of_ble_eq_true rfl)) dX7_drawn_54 ⟨Nat.le_of_ble_eq_true rfl, Nat.le_of_ble_eq_true rfl⟩) hS (fun q _ h => hFc q h) hFc (fun q u t H1 locs ht hvm hw hB hz1 hk1 hS => ?_)
    obtain ⟨rfl, rfl⟩ := hw
    obtain ⟨hP1, hD1⟩ := hB
    rw [ht] at hP1
    obtain ⟨hP, hD⟩ := va_join (wr := [1, 2, 3, 4, 5, 6, 7, 8, 9, 10, 11, 12, 13, 14, 15, 16, 17, 18, 19, 20, 21, 22, 23].filterMap (fun i => ((wB g B ++ wT cs (fun i => g (1 + i)) N ++ wF (g 44) (g 45) ++ wT cs (fun i => g (45 + i)) R))[i]?)) (w1 := (wB g r54.2)) hP hD [0] [1, 2, 3, 4, 5, 6, 7, 8, 9, 10, 11, 12, 13, 14, 15, 16, 17, 18, 19, 20, 21, 22, 23] rfl rfl (by decide) (by decide) hk1 hFc hP1 hD1
    generalize H1 = H at hP hS ⊢
    have hP := hP.sub (ws' := (wB g r54.2 ++ wT cs (fun i => g (1 + i)) N ++ wF (g 44) (g 45) ++ wT cs (fun i => g (45 + i)) R)) [23, 0, 1, 2, 3, 4, 5, 6, 7, 8, 9, 10, 11, 12, 13, 14, 15, 16, 17, 18, 19, 20, 21, 22] rfl
    have hD := hD.sub (ws' := (wB g r54.2 ++ wT cs (fun i => g (1 + i)) N ++ wF (g 44) (g 45) ++ wT cs (fun i => g (45 + i)) R)) [23, 0, 1, 2, 3, 4, 5, 6, 7, 8, 9, 10, 11, 12, 13, 14, 15, 16, 17, 18, 19, 20, 21, 22] (by decide) rfl
    exact hR _ _ _ _ _ _ dX7_drawn_57 hf hP hD hS
def f_X7_drawn_45 (x1 : Int32) (x2 : Int32) (x3 : Int32) (x4 : Int32) (B : Nat → Int32) (N : Tw) (R : Tw)  : Option (Int32 × (Nat → Int32) × Tw) :=
  f_X7_drawn_46 x1 x2 x3 x4 (0 : Int32) B N R
set_option maxHeartbeats 4000000 in
set_option maxRecDepth 100000 in
theorem b_X7_drawn_45 {p : Program} {l : Launch} {e : Env} {s : State} {m : MethodId} {args : Array Value} {below : List Frame} {meth : Method} {c : Code} {Q : State → Prop} {dC : Nat → ClassId} {dI : Nat → Nat → Nat} {cs : Nat → ClassId} {A : Nat → Prop} {g : Nat → Nat} {res : Int32 × (Nat → Int32) × Tw} (C : CallFix p m c cX7_drawn 7 s args wsX7_drawn RX7) (G : GE dC dI cs s) (hA : ∀ q : Nat, s.heap.size ≤ q → A q) {N : Tw} (hR : RTi p l e ({ frames := 5, cells := 0, slots := 0, locals := 117 }) s m args below meth c cX7_drawn Q (dC, dI) A (fun u : (Nat → Int32) × Tw => (wB g u.1 ++ wT cs (fun i => g (1 + i)) N ++ wF (g 44) (g 45) ++ wT cs (fun i => g (45 + i)) u.2)) res) (x1 : Int32) (x2 : Int32) (x3 : Int32) (x4 : Int32) (B : Nat → Int32) (_ : Tw) (R : Tw)   (H : Heap) (locs : List Loc) (ls : Array Slot) (hl : lv_has ls 7 [(0, .ref (g 0)), (1, .int (x1)), (2, .int (x2)), (3, .int (x3)), (4, .int (x4))]) (hP : va_P (dC, dI) vwCl (wB g B ++ wT cs (fun i => g (1 + i)) N ++ wF (g 44) (g 45) ++ wT cs (fun i => g (45 + i)) R) H) (hD : va_D A (wB g B ++ wT cs (fun i => g (1 + i)) N ++ wF (g 44) (g 45) ++ wT cs (fun i => g (45 + i)) R)) (hS : va_S A s.heap H locs) (hf : f_X7_drawn_45 x1 x2 x3 x4 B N R = some res) : W p l e ({ frames := 5, cells := 0, slots := 0, locals := 117 }) s m args below meth c H locs 0 0 Q (F0 m 45 ls []) := by
  obtain ⟨hx, hb, hml, hown, hts⟩ := id C
  obtain ⟨hK, hN⟩ := id G
  unfold f_X7_drawn_45 at hf
  refine lv_iconst (v := 0) hx hb dX7_drawn_45 (by decide) ?_
  exact b_X7_drawn_46 C G hA hR x1 x2 x3 x4 (0 : Int32) B N R _ _ _ (lv_sub hl [0, 1, 2, 3, 4] rfl) hP hD hS hf
def f_X7_drawn (x1 : Int32) (x2 : Int32) (x3 : Int32) (x4 : Int32) (B : Nat → Int32) (N : Tw) (R : Tw) : Option (Int32 × (Nat → Int32) × Tw) :=
  bn (f_X7_within x1 (0 : Int32) (999999 : Int32)) fun r5 =>
  if r5 = 0 then (
    f_X7_drawn_45 x1 x2 x3 x4 B N R
  ) else (
    bn (f_X7_within x2 (0 : Int32) (100 : Int32)) fun r15 =>
    if r15 = 0 then (
      f_X7_drawn_45 x1 x2 x3 x4 B N R
    ) else (
      bn (f_X7_within x3 (0 : Int32) (60 : Int32)) fun r25 =>
      if r25 = 0 then (
        f_X7_drawn_45 x1 x2 x3 x4 B N R
      ) else (
        bn (f_X7_within x4 (0 : Int32) (1 : Int32)) fun r35 =>
        if r35 = 0 then (
          f_X7_drawn_45 x1 x2 x3 x4 B N R
        ) else (
          f_X7_drawn_46 x1 x2 x3 x4 (1 : Int32) B N R
        )
      )
    )
  )
set_option maxHeartbeats 4000000 in
set_option maxRecDepth 100000 in
theorem c_X7_drawn (l : Launch) (dC : Nat → ClassId) (dI : Nat → Nat → Nat) (cs : Nat → ClassId) (g : Nat → Nat) (sz : Nat) (B : Nat → Int32) (N : Tw) (R : Tw) (x1 : Int32) (x2 : Int32) (x3 : Int32) (x4 : Int32) (res : Int32 × (Nat → Int32) × Tw) (hf : f_X7_drawn x1 x2 x3 x4 B N R = some res) : Met l yX7_drawn wsX7_drawn ({ frames := 5, cells := 0, slots := 0, locals := 117 }) (va_Pc [.ref (g 0), .int (x1), .int (x2), .int (x3), .int (x4)] (fun U => U.heap.size = sz ∧ va_P (dC, dI) vwCl (wB g B ++ wT cs (fun i => g (1 + i)) N ++ wF (g 44) (g 45) ++ wT cs (fun i => g (45 + i)) R) U.heap ∧ GE dC dI cs U ∧ va_D (fun _ => True) (wB g B ++ wT cs (fun i => g (1 + i)) N ++ wF (g 44) (g 45) ++ wT cs (fun i => g (45 + i)) R))) (va_Qi (fun r (u : (Nat → Int32) × Tw) => r = res.1 ∧ u = res.2) (fun u t => va_P (dC, dI) vwCl ((fun u : (Nat → Int32) × Tw => (wB g u.1 ++ wT cs (fun i => g (1 + i)) N ++ wF (g 44) (g 45) ++ wT cs (fun i => g (45 + i)) u.2)) u) t.heap ∧ va_D (va_A (wB g B ++ wT cs (fun i => g (1 + i)) N ++ wF (g 44) (g 45) ++ wT cs (fun i => g (45 + i)) R) sz) ((fun u : (Nat → Int32) × Tw => (wB g u.1 ++ wT cs (fun i => g (1 + i)) N ++ wF (g 44) (g 45) ++ wT cs (fun i => g (45 + i)) u.2)) u)) (va_A (wB g B ++ wT cs (fun i => g (1 + i)) N ++ wF (g 44) (g 45) ++ wT cs (fun i => g (45 + i)) R) sz)) 0 0 (va_A (wB g B ++ wT cs (fun i => g (1 + i)) N ++ wF (g 44) (g 45) ++ wT cs (fun i => g (45 + i)) R) sz) := by
  refine Met.ofW (cc := cX7_drawn) (maxL := 7) (ret := (some .int)) (by decide) rfl ?_
  intro p e s m args below meth c s₁ Bd hml hv
  obtain ⟨rfl, hsz, hP, G, hD0⟩ := hv
  have hts := atoms_spec (ws := wsX7_drawn) Bd.pre
  have hown : s.vm.findClass RX7 = some m.cls := findClass_of_methodNamed Bd.named
  have hlocks := Bd.notSynchronized
  have hx := Bd.exec
  have hb := Bd.bytes
  have hr := Bd.returns
  have C : CallFix p m c cX7_drawn 7 s _ wsX7_drawn RX7 := ⟨hx, hb, hml, hown, hts⟩
  obtain ⟨hK, hN⟩ := id G
  subst hsz
  have hD := hD0.self (sz := s.heap.size)
  generalize hAe : va_A (wB g B ++ wT cs (fun i => g (1 + i)) N ++ wF (g 44) (g 45) ++ wT cs (fun i => g (45 + i)) R) s.heap.size = A at hD ⊢
  have hA : ∀ q : Nat, s.heap.size ≤ q → A q := fun q h => by rw [← hAe]; exact Or.inr h
  have hS : va_S A s.heap s.heap [] := va_S.rf
  have hR : RTi p l e ({ frames := 5, cells := 0, slots := 0, locals := 117 }) s m ([.ref (g 0), .int (x1), .int (x2), .int (x3), .int (x4)] : List Value).toArray below meth c cX7_drawn (MQ below (va_Qi (fun r (u : (Nat → Int32) × Tw) => r = res.1 ∧ u = res.2) (fun u t => va_P (dC, dI) vwCl ((fun u : (Nat → Int32) × Tw => (wB g u.1 ++ wT cs (fun i => g (1 + i)) N ++ wF (g 44) (g 45) ++ wT cs (fun i => g (45 + i)) u.2)) u) t.heap ∧ va_D A ((fun u : (Nat → Int32) × Tw => (wB g u.1 ++ wT cs (fun i => g (1 + i)) N ++ wF (g 44) (g 45) ++ wT cs (fun i => g (45 + i)) u.2)) u)) A) ([.ref (g 0), .int (x1), .int (x2), .int (x3), .int (x4)] : List Value).toArray s 0 0 A) (dC, dI) A (fun u : (Nat → Int32) × Tw => (wB g u.1 ++ wT cs (fun i => g (1 + i)) N ++ wF (g 44) (g 45) ++ wT cs (fun i => g (45 + i)) u.2)) res := fun H locs pc ls r u dd h hP hD hS => W.iret hx hb hr (fun t ht hW => ⟨⟨r, u, rfl, by cases h; exact ⟨rfl, rfl⟩, by rw [ht]; exact hP, hD⟩, hS.F ht⟩) hS.2.2 dd
  have hl := lv_entry ([.ref (g 0), .int (x1), .int (x2), .int (x3), .int (x4)]) (n := 7) (Nat.le_of_ble_eq_true rfl)
  rw [lg_entry_eq]
  generalize (lg_sl ([.ref (g 0), .int (x1), .int (x2), .int (x3), .int (x4)]) ++ List.replicate (7 - (lg_sl ([.ref (g 0), .int (x1), .int (x2), .int (x3), .int (x4)])).length) Slot.unset).toArray = ls at hl ⊢
  have hl : lv_has ls 7 [(0, .ref (g 0)), (1, .int (x1)), (2, .int (x2)), (3, .int (x3)), (4, .int (x4))] := hl
  unfold f_X7_drawn at hf
  refine lv_iload_n hx hb dX7_drawn_0 rfl (lv_at hl 1 rfl) ?_
  refine lv_iconst (v := 0) hx hb dX7_drawn_1 (by decide) ?_
  refine lv_ldcw (v := 999999) hx hb hown (hts (.constant RX7 258 (999999)) (by decide +kernel)) dX7_drawn_2 ?_
  obtain ⟨r5, hr5, hf⟩ := bn_e hf
  have hPc := hP.sub (ws' := ([] : va_W)) [] rfl
  refine vp_callSi (W.runS (As := [.int (x1), .int ((0 : Int32)), .int ((999999 : Int32))]) (rest := []) C (c_X7_within l dC dI cs x1 (0 : Int32) (999999 : Int32) r5 hr5) (va_cwS 3 hts gX7_drawn_X7_within rfl rfl rfl (by decide +kernel) ⟨Nat.le_of_ble_eq_true rfl, Nat.le_of_ble_eq_true rfl⟩) ⟨(fun a U g mk q => ⟨q.1, q.2.1, GE.calling q.2.2⟩), (fun U hU hW => ⟨rfl, by rw [hU]; exact hPc, GE.warm hW G⟩)⟩ rfl rfl hl.1 rfl (lv_room (Nat.le_of_ble_eq_true rfl)) dX7_drawn_5 ⟨Nat.le_of_ble_eq_true rfl, Nat.le_of_ble_eq_true rfl⟩) (fun qr5 hqr5 => ?_)
  obtain ⟨hqr5, hnr5⟩ := hqr5
  obtain rfl := hqr5.symm
  refine lv_if_eq (tgt := 45) hx hb dX7_drawn_8 (by decide) (fun c1 => ?_) (fun c1 => ?_)
  · replace hf := it_t c1 hf
    exact b_X7_drawn_45 C G hA hR x1 x2 x3 x4 B N R _ _ _ (lv_sub hl [0, 1, 2, 3, 4] rfl) hP hD hS hf
  · replace hf := it_f c1 hf
    refine lv_iload_n hx hb dX7_drawn_11 rfl (lv_at hl 2 rfl) ?_
    refine lv_iconst (v := 0) hx hb dX7_drawn_12 (by decide) ?_
    refine lv_bipush (v := 100) hx hb dX7_drawn_13 (by decide) ?_
    obtain ⟨r15, hr15, hf⟩ := bn_e hf
    have hPc := hP.sub (ws' := ([] : va_W)) [] rfl
    refine vp_callSi (W.runS (As := [.int (x2), .int ((0 : Int32)), .int ((100 : Int32))]) (rest := []) C (c_X7_within l dC dI cs x2 (0 : Int32) (100 : Int32) r15 hr15) (va_cwS 3 hts gX7_drawn_X7_within rfl rfl rfl (by decide +kernel) ⟨Nat.le_of_ble_eq_true rfl, Nat.le_of_ble_eq_true rfl⟩) ⟨(fun a U g mk q => ⟨q.1, q.2.1, GE.calling q.2.2⟩), (fun U hU hW => ⟨rfl, by rw [hU]; exact hPc, GE.warm hW G⟩)⟩ rfl rfl hl.1 rfl (lv_room (Nat.le_of_ble_eq_true rfl)) dX7_drawn_15 ⟨Nat.le_of_ble_eq_true rfl, Nat.le_of_ble_eq_true rfl⟩) (fun qr15 hqr15 => ?_)
    obtain ⟨hqr15, hnr15⟩ := hqr15
    obtain rfl := hqr15.symm
    refine lv_if_eq (tgt := 45) hx hb dX7_drawn_18 (by decide) (fun c2 => ?_) (fun c2 => ?_)
    · replace hf := it_t c2 hf
      exact b_X7_drawn_45 C G hA hR x1 x2 x3 x4 B N R _ _ _ (lv_sub hl [0, 1, 2, 3, 4] rfl) hP hD hS hf
    · replace hf := it_f c2 hf
      refine lv_iload_n hx hb dX7_drawn_21 rfl (lv_at hl 3 rfl) ?_
      refine lv_iconst (v := 0) hx hb dX7_drawn_22 (by decide) ?_
      refine lv_bipush (v := 60) hx hb dX7_drawn_23 (by decide) ?_
      obtain ⟨r25, hr25, hf⟩ := bn_e hf
      have hPc := hP.sub (ws' := ([] : va_W)) [] rfl
      refine vp_callSi (W.runS (As := [.int (x3), .int ((0 : Int32)), .int ((60 : Int32))]) (rest := []) C (c_X7_within l dC dI cs x3 (0 : Int32) (60 : Int32) r25 hr25) (va_cwS 3 hts gX7_drawn_X7_within rfl rfl rfl (by decide +kernel) ⟨Nat.le_of_ble_eq_true rfl, Nat.le_of_ble_eq_true rfl⟩) ⟨(fun a U g mk q => ⟨q.1, q.2.1, GE.calling q.2.2⟩), (fun U hU hW => ⟨rfl, by rw [hU]; exact hPc, GE.warm hW G⟩)⟩ rfl rfl hl.1 rfl (lv_room (Nat.le_of_ble_eq_true rfl)) dX7_drawn_25 ⟨Nat.le_of_ble_eq_true rfl, Nat.le_of_ble_eq_true rfl⟩) (fun qr25 hqr25 => ?_)
      obtain ⟨hqr25, hnr25⟩ := hqr25
      obtain rfl := hqr25.symm
      refine lv_if_eq (tgt := 45) hx hb dX7_drawn_28 (by decide) (fun c3 => ?_) (fun c3 => ?_)
      · replace hf := it_t c3 hf
        exact b_X7_drawn_45 C G hA hR x1 x2 x3 x4 B N R _ _ _ (lv_sub hl [0, 1, 2, 3, 4] rfl) hP hD hS hf
      · replace hf := it_f c3 hf
        refine lv_iload hx hb dX7_drawn_31 (lv_at hl 4 rfl) ?_
        refine lv_iconst (v := 0) hx hb dX7_drawn_33 (by decide) ?_
        refine lv_iconst (v := 1) hx hb dX7_drawn_34 (by decide) ?_
        obtain ⟨r35, hr35, hf⟩ := bn_e hf
        have hPc := hP.sub (ws' := ([] : va_W)) [] rfl
        refine vp_callSi (W.runS (As := [.int (x4), .int ((0 : Int32)), .int ((1 : Int32))]) (rest := []) C (c_X7_within l dC dI cs x4 (0 : Int32) (1 : Int32) r35 hr35) (va_cwS 3 hts gX7_drawn_X7_within rfl rfl rfl (by decide +kernel) ⟨Nat.le_of_ble_eq_true rfl, Nat.le_of_ble_eq_true rfl⟩) ⟨(fun a U g mk q => ⟨q.1, q.2.1, GE.calling q.2.2⟩), (fun U hU hW => ⟨rfl, by rw [hU]; exact hPc, GE.warm hW G⟩)⟩ rfl rfl hl.1 rfl (lv_room (Nat.le_of_ble_eq_true rfl)) dX7_drawn_35 ⟨Nat.le_of_ble_eq_true rfl, Nat.le_of_ble_eq_true rfl⟩) (fun qr35 hqr35 => ?_)
        obtain ⟨hqr35, hnr35⟩ := hqr35
        obtain rfl := hqr35.symm
        refine lv_if_eq (tgt := 45) hx hb dX7_drawn_38 (by decide) (fun c4 => ?_) (fun c4 => ?_)
        · replace hf := it_t c4 hf
          exact b_X7_drawn_45 C G hA hR x1 x2 x3 x4 B N R _ _ _ (lv_sub hl [0, 1, 2, 3, 4] rfl) hP hD hS hf
        · replace hf := it_f c4 hf
          refine lv_iconst (v := 1) hx hb dX7_drawn_41 (by decide) ?_
          refine lv_goto (tgt := 46) hx hb dX7_drawn_42 (by decide) ?_
          exact b_X7_drawn_46 C G hA hR x1 x2 x3 x4 (1 : Int32) B N R _ _ _ (lv_sub hl [0, 1, 2, 3, 4] rfl) hP hD hS hf

theorem in_X7_part_X0 : ∀ w ∈ wsX00, w ∈ wsX7_part := by decide +kernel
theorem in_X7_part_X7 : ∀ w ∈ wsX70, w ∈ wsX7_part := by decide +kernel
def f_X7_part (x1 : Int32) (B : Nat → Int32) (K : Ch) : Option (Int64 × (Nat → Int32)) :=
  if x1 = 0 then (
    some ((K.1 0), B)
  ) else (
  if x1 = 1 then (
    some ((K.1 1), B)
  ) else (
  bn (f_X7_bad B) fun r45 =>
  some ((r45.1).toInt64, r45.2)
  ))
set_option maxHeartbeats 4000000 in
set_option maxRecDepth 100000 in
theorem c_X7_part (l : Launch) (dC : Nat → ClassId) (dI : Nat → Nat → Nat) (cs : Nat → ClassId) (g : Nat → Nat) (sz : Nat) (B : Nat → Int32) (K : Ch) (x1 : Int32) (res : Int64 × (Nat → Int32)) (hf : f_X7_part x1 B K = some res) : Met l yX7_part wsX7_part ({ frames := 1, cells := 0, slots := 0, locals := 20 }) (va_Pc [.ref (g 0), .int (x1)] (fun U => U.heap.size = sz ∧ va_P (dC, dI) vwCl (wB g B ++ wC cs (fun i => g (60 + i)) K) U.heap ∧ GE dC dI cs U ∧ va_D (fun _ => True) (wB g B ++ wC cs (fun i => g (60 + i)) K))) (va_Ql (fun r (u : (Nat → Int32)) => r = res.1 ∧ u = res.2) (fun u t => va_P (dC, dI) vwCl ((fun u : (Nat → Int32) => (wB g u ++ wC cs (fun i => g (60 + i)) K)) u) t.heap ∧ va_D (va_A (wB g B ++ wC cs (fun i => g (60 + i)) K) sz) ((fun u : (Nat → Int32) => (wB g u ++ wC cs (fun i => g (60 + i)) K)) u)) (va_A (wB g B ++ wC cs (fun i => g (60 + i)) K) sz)) 0 0 (va_A (wB g B ++ wC cs (fun i => g (60 + i)) K) sz) := by
  refine Met.ofW (cc := cX7_part) (maxL := 2) (ret := (some .long)) (by decide) rfl ?_
  intro p e s m args below meth c s₁ Bd hml hv
  obtain ⟨rfl, hsz, hP, G, hD0⟩ := hv
  have hts := atoms_spec (ws := wsX7_part) Bd.pre
  have hown : s.vm.findClass RX7 = some m.cls := findClass_of_methodNamed Bd.named
  have hlocks := Bd.notSynchronized
  have hx := Bd.exec
  have hb := Bd.bytes
  have hr := Bd.returns
  have C : CallFix p m c cX7_part 2 s _ wsX7_part RX7 := ⟨hx, hb, hml, hown, hts⟩
  obtain ⟨hK, hN⟩ := id G
  subst hsz
  have hD := hD0.self (sz := s.heap.size)
  generalize hAe : va_A (wB g B ++ wC cs (fun i => g (60 + i)) K) s.heap.size = A at hD ⊢
  have hA : ∀ q : Nat, s.heap.size ≤ q → A q := fun q h => by rw [← hAe]; exact Or.inr h
  have hS : va_S A s.heap s.heap [] := va_S.rf
  have hR : RTl p l e ({ frames := 1, cells := 0, slots := 0, locals := 20 }) s m ([.ref (g 0), .int (x1)] : List Value).toArray below meth c cX7_part (MQ below (va_Ql (fun r (u : (Nat → Int32)) => r = res.1 ∧ u = res.2) (fun u t => va_P (dC, dI) vwCl ((fun u : (Nat → Int32) => (wB g u ++ wC cs (fun i => g (60 + i)) K)) u) t.heap ∧ va_D A ((fun u : (Nat → Int32) => (wB g u ++ wC cs (fun i => g (60 + i)) K)) u)) A) ([.ref (g 0), .int (x1)] : List Value).toArray s 0 0 A) (dC, dI) A (fun u : (Nat → Int32) => (wB g u ++ wC cs (fun i => g (60 + i)) K)) res := fun H locs pc ls r u dd h hP hD hS => W.lret hx hb hr (fun t ht hW => ⟨⟨r, u, rfl, by cases h; exact ⟨rfl, rfl⟩, by rw [ht]; exact hP, hD⟩, hS.F ht⟩) hS.2.2 dd
  have hl := lv_entry ([.ref (g 0), .int (x1)]) (n := 2) (Nat.le_of_ble_eq_true rfl)
  rw [lg_entry_eq]
  generalize (lg_sl ([.ref (g 0), .int (x1)]) ++ List.replicate (2 - (lg_sl ([.ref (g 0), .int (x1)])).length) Slot.unset).toArray = ls at hl ⊢
  have hl : lv_has ls 2 [(0, .ref (g 0)), (1, .int (x1))] := hl
  unfold f_X7_part at hf
  refine lv_iload_n hx hb dX7_part_0 rfl (lv_at hl 1 rfl) ?_
  by_cases c1 : x1 = 0
  · replace hf := it_t c1 hf
    refine lv_lookup (off := 27) (tgt := 28) hx hb dX7_part_1 (by decide) (by rw [c1] <;> rfl) (by decide) ?_
    refine lv_aload_n hx hb dX7_part_28 rfl (lv_at hl 0 rfl) ?_
    refine va_get (D := (dC, dI)) (ci := 7) (v := .ref (g 60)) (C := RX7) (T := TX7) (N := 11) hx hb hts in_X7_part_X7 hown hK hP 0 rfl rfl 7 (by decide) (hts (.fieldLink RX7 57 "BackLoans" "chance" "LBackLoans$Chance;") (by decide +kernel)) (fun _ h9 => h9) rfl dX7_part_29 ?_
    refine va_get (D := (dC, dI)) (ci := 0) (v := .long ((K.1 0))) (C := RX0) (T := TX0) (N := 3) hx hb hts in_X7_part_X0 hown hK hP 1 rfl rfl 0 (by decide) (hts (.fieldLink RX7 263 "BackLoans$Chance" "above" "J") (by decide +kernel)) (fun _ h9 => h9) rfl dX7_part_32 ?_
    exact hR _ _ _ _ _ _ dX7_part_35 hf hP hD hS
  replace hf := it_f c1 hf
  by_cases c2 : x1 = 1
  · replace hf := it_t c2 hf
    refine lv_lookup (off := 35) (tgt := 36) hx hb dX7_part_1 (by decide) (by rw [c2] <;> rfl) (by decide) ?_
    refine lv_aload_n hx hb dX7_part_36 rfl (lv_at hl 0 rfl) ?_
    refine va_get (D := (dC, dI)) (ci := 7) (v := .ref (g 60)) (C := RX7) (T := TX7) (N := 11) hx hb hts in_X7_part_X7 hown hK hP 0 rfl rfl 7 (by decide) (hts (.fieldLink RX7 57 "BackLoans" "chance" "LBackLoans$Chance;") (by decide +kernel)) (fun _ h9 => h9) rfl dX7_part_37 ?_
    refine va_get (D := (dC, dI)) (ci := 0) (v := .long ((K.1 1))) (C := RX0) (T := TX0) (N := 3) hx hb hts in_X7_part_X0 hown hK hP 1 rfl rfl 1 (by decide) (hts (.fieldLink RX7 267 "BackLoans$Chance" "below" "J") (by decide +kernel)) (fun _ h9 => h9) rfl dX7_part_40 ?_
    exact hR _ _ _ _ _ _ dX7_part_43 hf hP hD hS
  replace hf := it_f c2 hf
  refine lv_lookup (off := 43) (tgt := 44) hx hb dX7_part_1 (by decide) (by rw [lv_osw (a := 0) c1 (by decide), lv_osw (a := 1) c2 (by decide)] <;> rfl) (by decide) ?_
  refine lv_aload_n hx hb dX7_part_44 rfl (lv_at hl 0 rfl) ?_
  obtain ⟨r45, hr45, hf⟩ := bn_e hf
  have hPc := hP.sub (ws' := (wB g B)) [0] rfl
  have hDc := hD.sub (ws' := (wB g B)) [0] (by decide) rfl
  have hFc := va_free (wc := (wB g B)) hD hS hA [0] rfl
  refine va_calli (va_runV (As := []) (rest := []) C (c_X7_bad l dC dI cs g s.heap.size B r45 hr45) (cwV 0 hts gX7_part_X7_bad rfl rfl rfl (by decide +kernel) ⟨Nat.le_of_ble_eq_true rfl, Nat.le_of_ble_eq_true rfl⟩) ⟨(fun a U g mk q => ⟨q.1, q.2.1, q.2.2.1, GE.calling q.2.2.2.1, q.2.2.2.2⟩), va_recv hK hPc (ci := 7) (q0 := 0) rfl rfl, (fun U hU hW => ⟨rfl, by rw [hU], by rw [hU]; exact hPc, GE.warm hW G, hDc.weaken (fun _ _ _ _ => trivial)⟩)⟩ rfl rfl hl.1 rfl (lv_room (Nat.le_of_ble_eq_true rfl)) dX7_part_45 ⟨Nat.le_of_ble_eq_true rfl, Nat.le_of_ble_eq_true rfl⟩) hS (fun q _ h => hFc q h) hFc (fun q u t H1 locs ht hvm hw hB hz1 hk1 hS => ?_)
  obtain ⟨rfl, rfl⟩ := hw
  obtain ⟨hP1, hD1⟩ := hB
  rw [ht] at hP1
  obtain ⟨hP, hD⟩ := va_join (wr := [1, 2].filterMap (fun i => ((wB g B ++ wC cs (fun i => g (60 + i)) K))[i]?)) (w1 := (wB g r45.2)) hP hD [0] [1, 2] rfl rfl (by decide) (by decide) hk1 hFc hP1 hD1
  generalize H1 = H at hP hS ⊢
  have hP := hP.sub (ws' := (wB g r45.2 ++ wC cs (fun i => g (60 + i)) K)) [2, 0, 1] rfl
  have hD := hD.sub (ws' := (wB g r45.2 ++ wC cs (fun i => g (60 + i)) K)) [2, 0, 1] (by decide) rfl
  refine lv_i2l hx hb dX7_part_48 rfl ?_
  exact hR _ _ _ _ _ _ dX7_part_49 hf hP hD hS

theorem in_X7_imageAt_X7 : ∀ w ∈ wsX70, w ∈ wsX7_imageAt := by decide +kernel
set_option maxHeartbeats 4000000 in
set_option maxRecDepth 100000 in
theorem c_X7_imageAt0 (l : Launch) (dC : Nat → ClassId) (dI : Nat → Nat → Nat) (cs : Nat → ClassId) (g : Nat → Nat) (B : Nat → Int32) (x1 : Int32) (hc : x1 = 0) : Met l yX7_imageAt wsX7_imageAt ({ frames := 0, cells := 0, slots := 0, locals := 0 }) (va_Pc [.ref (g 0), .int x1] (fun U => va_P (dC, dI) vwCl (wB g B) U.heap ∧ GE dC dI cs U)) (va_Sr (fun _ => True) (fun _ => .ref (g 14))) 0 0 (fun _ => False) := by
  refine Met.ofW (cc := cX7_imageAt) (maxL := 2) (ret := (some (.object "BackLoans$Image"))) (by decide) rfl ?_
  intro p e s m args below meth c s₁ Bd hml hv
  obtain ⟨rfl, hP, G⟩ := hv
  have hts := atoms_spec (ws := wsX7_imageAt) Bd.pre
  have hown : s.vm.findClass RX7 = some m.cls := findClass_of_methodNamed Bd.named
  have hlocks := Bd.notSynchronized
  have hx := Bd.exec
  have hb := Bd.bytes
  have hr := Bd.returns
  obtain ⟨hK, hN⟩ := id G
  have hl := lv_entry ([.ref (g 0), .int x1]) (n := 2) (Nat.le_of_ble_eq_true rfl)
  rw [lg_entry_eq]
  generalize (lg_sl ([.ref (g 0), .int x1]) ++ List.replicate (2 - (lg_sl ([.ref (g 0), .int x1])).length) Slot.unset).toArray = ls at hl ⊢
  have hl : lv_has ls 2 [(0, .ref (g 0)), (1, .int x1)] := hl
  refine lv_iload_n hx hb dX7_imageAt_0 rfl (lv_at hl 1 rfl) ?_
  refine lv_if_ne (tgt := 11) hx hb dX7_imageAt_1 (by decide) (fun c1 => ?_) (fun c1 => ?_)
  · exact absurd hc c1
  · refine lv_aload_n hx hb dX7_imageAt_4 rfl (lv_at hl 0 rfl) ?_
    refine va_get (D := (dC, dI)) (ci := 7) (v := .ref (g 14)) (C := RX7) (T := TX7) (N := 11) hx hb hts in_X7_imageAt_X7 hown hK hP 0 rfl rfl 2 (by decide) (hts (.fieldLink RX7 26 "BackLoans" "firstImage" "LBackLoans$Image;") (by decide +kernel)) (fun _ h9 => h9) rfl dX7_imageAt_5 ?_
    refine lv_goto (tgt := 15) hx hb dX7_imageAt_8 (by decide) ?_
    exact W.aret hx hb hr (Or.inl ⟨_, rfl⟩) (Or.inr ⟨_, rfl⟩) (fun t ht hW => ⟨0, rfl, trivial, ht⟩) (fun q hq => by cases hq) dX7_imageAt_15
set_option maxHeartbeats 4000000 in
set_option maxRecDepth 100000 in
theorem c_X7_imageAt1 (l : Launch) (dC : Nat → ClassId) (dI : Nat → Nat → Nat) (cs : Nat → ClassId) (g : Nat → Nat) (B : Nat → Int32) (x1 : Int32) (hc : ¬ x1 = 0) : Met l yX7_imageAt wsX7_imageAt ({ frames := 0, cells := 0, slots := 0, locals := 0 }) (va_Pc [.ref (g 0), .int x1] (fun U => va_P (dC, dI) vwCl (wB g B) U.heap ∧ GE dC dI cs U)) (va_Sr (fun _ => True) (fun _ => .ref (g 28))) 0 0 (fun _ => False) := by
  refine Met.ofW (cc := cX7_imageAt) (maxL := 2) (ret := (some (.object "BackLoans$Image"))) (by decide) rfl ?_
  intro p e s m args below meth c s₁ Bd hml hv
  obtain ⟨rfl, hP, G⟩ := hv
  have hts := atoms_spec (ws := wsX7_imageAt) Bd.pre
  have hown : s.vm.findClass RX7 = some m.cls := findClass_of_methodNamed Bd.named
  have hlocks := Bd.notSynchronized
  have hx := Bd.exec
  have hb := Bd.bytes
  have hr := Bd.returns
  obtain ⟨hK, hN⟩ := id G
  have hl := lv_entry ([.ref (g 0), .int x1]) (n := 2) (Nat.le_of_ble_eq_true rfl)
  rw [lg_entry_eq]
  generalize (lg_sl ([.ref (g 0), .int x1]) ++ List.replicate (2 - (lg_sl ([.ref (g 0), .int x1])).length) Slot.unset).toArray = ls at hl ⊢
  have hl : lv_has ls 2 [(0, .ref (g 0)), (1, .int x1)] := hl
  refine lv_iload_n hx hb dX7_imageAt_0 rfl (lv_at hl 1 rfl) ?_
  refine lv_if_ne (tgt := 11) hx hb dX7_imageAt_1 (by decide) (fun c1 => ?_) (fun c1 => ?_)
  · refine lv_aload_n hx hb dX7_imageAt_11 rfl (lv_at hl 0 rfl) ?_
    refine va_get (D := (dC, dI)) (ci := 7) (v := .ref (g 28)) (C := RX7) (T := TX7) (N := 11) hx hb hts in_X7_imageAt_X7 hown hK hP 0 rfl rfl 3 (by decide) (hts (.fieldLink RX7 30 "BackLoans" "secondImage" "LBackLoans$Image;") (by decide +kernel)) (fun _ h9 => h9) rfl dX7_imageAt_12 ?_
    exact W.aret hx hb hr (Or.inl ⟨_, rfl⟩) (Or.inr ⟨_, rfl⟩) (fun t ht hW => ⟨0, rfl, trivial, ht⟩) (fun q hq => by cases hq) dX7_imageAt_15
  · exact absurd c1 hc
theorem in_X7_image_X2 : ∀ w ∈ wsX20, w ∈ wsX7_image := by decide +kernel
theorem in_X7_image_X7 : ∀ w ∈ wsX70, w ∈ wsX7_image := by decide +kernel
def f_X7_image (x1 : Int32) (B : Nat → Int32) (N : Tw) (P : Ps) (I1 : Int32) (T1 : Tw) (P1 : Ps) (I2 : Int32) (T2 : Tw) (P2 : Ps) : Option (Int32 × (Nat → Int32) × Int32 × Tw × Ps × Int32 × Tw × Ps) :=
  bn (f_X7_within x1 (0 : Int32) (1 : Int32)) fun r3 =>
  if r3 = 0 then (
    bn (f_X7_bad B) fun r10 =>
    some (r10.1, (r10.2, I1, T1, P1, I2, T2, P2))
  ) else (
    if x1 = 0 then (
      bn (f_X5_copyFrom T1 N) fun r28 =>
      bn (f_X3_copyFrom P1 P) fun r39 =>
      lett ((1 : Int32)) fun I1_44 =>
      some ((1 : Int32), (B, I1_44, r28, r39, I2, T2, P2))
    ) else (
      bn (f_X5_copyFrom T2 N) fun r28 =>
      bn (f_X3_copyFrom P2 P) fun r39 =>
      lett ((1 : Int32)) fun I2_44 =>
      some ((1 : Int32), (B, I1, T1, P1, I2_44, r28, r39))
    )
  )
set_option maxHeartbeats 4000000 in
set_option maxRecDepth 100000 in
theorem c_X7_image (l : Launch) (dC : Nat → ClassId) (dI : Nat → Nat → Nat) (cs : Nat → ClassId) (g : Nat → Nat) (sz : Nat) (B : Nat → Int32) (N : Tw) (P : Ps) (I1 : Int32) (T1 : Tw) (P1 : Ps) (I2 : Int32) (T2 : Tw) (P2 : Ps) (x1 : Int32) (res : Int32 × (Nat → Int32) × Int32 × Tw × Ps × Int32 × Tw × Ps) (hf : f_X7_image x1 B N P I1 T1 P1 I2 T2 P2 = some res) : Met l yX7_image wsX7_image ({ frames := 2, cells := 0, slots := 0, locals := 47 }) (va_Pc [.ref (g 0), .int (x1)] (fun U => U.heap.size = sz ∧ va_P (dC, dI) vwCl (wB g B ++ wT cs (fun i => g (1 + i)) N ++ wP cs (fun i => g (12 + i)) P ++ wI (g 14) (g 15) (g 26) I1 ++ wT cs (fun i => g (15 + i)) T1 ++ wP cs (fun i => g (26 + i)) P1 ++ wI (g 28) (g 29) (g 40) I2 ++ wT cs (fun i => g (29 + i)) T2 ++ wP cs (fun i => g (40 + i)) P2) U.heap ∧ GE dC dI cs U ∧ va_D (fun _ => True) (wB g B ++ wT cs (fun i => g (1 + i)) N ++ wP cs (fun i => g (12 + i)) P ++ wI (g 14) (g 15) (g 26) I1 ++ wT cs (fun i => g (15 + i)) T1 ++ wP cs (fun i => g (26 + i)) P1 ++ wI (g 28) (g 29) (g 40) I2 ++ wT cs (fun i => g (29 + i)) T2 ++ wP cs (fun i => g (40 + i)) P2))) (va_Qi (fun r (u : (Nat → Int32) × Int32 × Tw × Ps × Int32 × Tw × Ps) => r = res.1 ∧ u = res.2) (fun u t => va_P (dC, dI) vwCl ((fun u : (Nat → Int32) × Int32 × Tw × Ps × Int32 × Tw × Ps => (wB g u.1 ++ wT cs (fun i => g (1 + i)) N ++ wP cs (fun i => g (12 + i)) P ++ wI (g 14) (g 15) (g 26) u.2.1 ++ wT cs (fun i => g (15 + i)) u.2.2.1 ++ wP cs (fun i => g (26 + i)) u.2.2.2.1 ++ wI (g 28) (g 29) (g 40) u.2.2.2.2.1 ++ wT cs (fun i => g (29 + i)) u.2.2.2.2.2.1 ++ wP cs (fun i => g (40 + i)) u.2.2.2.2.2.2)) u) t.heap ∧ va_D (va_A (wB g B ++ wT cs (fun i => g (1 + i)) N ++ wP cs (fun i => g (12 + i)) P ++ wI (g 14) (g 15) (g 26) I1 ++ wT cs (fun i => g (15 + i)) T1 ++ wP cs (fun i => g (26 + i)) P1 ++ wI (g 28) (g 29) (g 40) I2 ++ wT cs (fun i => g (29 + i)) T2 ++ wP cs (fun i => g (40 + i)) P2) sz) ((fun u : (Nat → Int32) × Int32 × Tw × Ps × Int32 × Tw × Ps => (wB g u.1 ++ wT cs (fun i => g (1 + i)) N ++ wP cs (fun i => g (12 + i)) P ++ wI (g 14) (g 15) (g 26) u.2.1 ++ wT cs (fun i => g (15 + i)) u.2.2.1 ++ wP cs (fun i => g (26 + i)) u.2.2.2.1 ++ wI (g 28) (g 29) (g 40) u.2.2.2.2.1 ++ wT cs (fun i => g (29 + i)) u.2.2.2.2.2.1 ++ wP cs (fun i => g (40 + i)) u.2.2.2.2.2.2)) u)) (va_A (wB g B ++ wT cs (fun i => g (1 + i)) N ++ wP cs (fun i => g (12 + i)) P ++ wI (g 14) (g 15) (g 26) I1 ++ wT cs (fun i => g (15 + i)) T1 ++ wP cs (fun i => g (26 + i)) P1 ++ wI (g 28) (g 29) (g 40) I2 ++ wT cs (fun i => g (29 + i)) T2 ++ wP cs (fun i => g (40 + i)) P2) sz)) 0 0 (va_A (wB g B ++ wT cs (fun i => g (1 + i)) N ++ wP cs (fun i => g (12 + i)) P ++ wI (g 14) (g 15) (g 26) I1 ++ wT cs (fun i => g (15 + i)) T1 ++ wP cs (fun i => g (26 + i)) P1 ++ wI (g 28) (g 29) (g 40) I2 ++ wT cs (fun i => g (29 + i)) T2 ++ wP cs (fun i => g (40 + i)) P2) sz) := by
  refine Met.ofW (cc := cX7_image) (maxL := 3) (ret := (some .int)) (by decide) rfl ?_
  intro p e s m args below meth c s₁ Bd hml hv
  obtain ⟨rfl, hsz, hP, G, hD0⟩ := hv
  have hts := atoms_spec (ws := wsX7_image) Bd.pre
  have hown : s.vm.findClass RX7 = some m.cls := findClass_of_methodNamed Bd.named
  have hlocks := Bd.notSynchronized
  have hx := Bd.exec
  have hb := Bd.bytes
  have hr := Bd.returns
  have C : CallFix p m c cX7_image 3 s _ wsX7_image RX7 := ⟨hx, hb, hml, hown, hts⟩
  obtain ⟨hK, hN⟩ := id G
  subst hsz
  have hD := hD0.self (sz := s.heap.size)
  generalize hAe : va_A (wB g B ++ wT cs (fun i => g (1 + i)) N ++ wP cs (fun i => g (12 + i)) P ++ wI (g 14) (g 15) (g 26) I1 ++ wT cs (fun i => g (15 + i)) T1 ++ wP cs (fun i => g (26 + i)) P1 ++ wI (g 28) (g 29) (g 40) I2 ++ wT cs (fun i => g (29 + i)) T2 ++ wP cs (fun i => g (40 + i)) P2) s.heap.size = A at hD ⊢
  have hA : ∀ q : Nat, s.heap.size ≤ q → A q := fun q h => by rw [← hAe]; exact Or.inr h
  have hS : va_S A s.heap s.heap [] := va_S.rf
  have hJ : adI A g 42 := adI_of hD rfl
  have hR : RTi p l e ({ frames := 2, cells := 0, slots := 0, locals := 47 }) s m ([.ref (g 0), .int (x1)] : List Value).toArray below meth c cX7_image (MQ below (va_Qi (fun r (u : (Nat → Int32) × Int32 × Tw × Ps × Int32 × Tw × Ps) => r = res.1 ∧ u = res.2) (fun u t => va_P (dC, dI) vwCl ((fun u : (Nat → Int32) × Int32 × Tw × Ps × Int32 × Tw × Ps => (wB g u.1 ++ wT cs (fun i => g (1 + i)) N ++ wP cs (fun i => g (12 + i)) P ++ wI (g 14) (g 15) (g 26) u.2.1 ++ wT cs (fun i => g (15 + i)) u.2.2.1 ++ wP cs (fun i => g (26 + i)) u.2.2.2.1 ++ wI (g 28) (g 29) (g 40) u.2.2.2.2.1 ++ wT cs (fun i => g (29 + i)) u.2.2.2.2.2.1 ++ wP cs (fun i => g (40 + i)) u.2.2.2.2.2.2)) u) t.heap ∧ va_D A ((fun u : (Nat → Int32) × Int32 × Tw × Ps × Int32 × Tw × Ps => (wB g u.1 ++ wT cs (fun i => g (1 + i)) N ++ wP cs (fun i => g (12 + i)) P ++ wI (g 14) (g 15) (g 26) u.2.1 ++ wT cs (fun i => g (15 + i)) u.2.2.1 ++ wP cs (fun i => g (26 + i)) u.2.2.2.1 ++ wI (g 28) (g 29) (g 40) u.2.2.2.2.1 ++ wT cs (fun i => g (29 + i)) u.2.2.2.2.2.1 ++ wP cs (fun i => g (40 + i)) u.2.2.2.2.2.2)) u)) A) ([.ref (g 0), .int (x1)] : List Value).toArray s 0 0 A) (dC, dI) A (fun u : (Nat → Int32) × Int32 × Tw × Ps × Int32 × Tw × Ps => (wB g u.1 ++ wT cs (fun i => g (1 + i)) N ++ wP cs (fun i => g (12 + i)) P ++ wI (g 14) (g 15) (g 26) u.2.1 ++ wT cs (fun i => g (15 + i)) u.2.2.1 ++ wP cs (fun i => g (26 + i)) u.2.2.2.1 ++ wI (g 28) (g 29) (g 40) u.2.2.2.2.1 ++ wT cs (fun i => g (29 + i)) u.2.2.2.2.2.1 ++ wP cs (fun i => g (40 + i)) u.2.2.2.2.2.2)) res := fun H locs pc ls r u dd h hP hD hS => W.iret hx hb hr (fun t ht hW => ⟨⟨r, u, rfl, by cases h; exact ⟨rfl, rfl⟩, by rw [ht]; exact hP, hD⟩, hS.F ht⟩) hS.2.2 dd
  have hl := lv_entry ([.ref (g 0), .int (x1)]) (n := 3) (Nat.le_of_ble_eq_true rfl)
  rw [lg_entry_eq]
  generalize (lg_sl ([.ref (g 0), .int (x1)]) ++ List.replicate (3 - (lg_sl ([.ref (g 0), .int (x1)])).length) Slot.unset).toArray = ls at hl ⊢
  have hl : lv_has ls 3 [(0, .ref (g 0)), (1, .int (x1))] := hl
  unfold f_X7_image at hf
  refine lv_iload_n hx hb dX7_image_0 rfl (lv_at hl 1 rfl) ?_
  refine lv_iconst (v := 0) hx hb dX7_image_1 (by decide) ?_
  refine lv_iconst (v := 1) hx hb dX7_image_2 (by decide) ?_
  obtain ⟨r3, hr3, hf⟩ := bn_e hf
  have hPc := hP.sub (ws' := ([] : va_W)) [] rfl
  refine vp_callSi (W.runS (As := [.int (x1), .int ((0 : Int32)), .int ((1 : Int32))]) (rest := []) C (c_X7_within l dC dI cs x1 (0 : Int32) (1 : Int32) r3 hr3) (va_cwS 3 hts gX7_image_X7_within rfl rfl rfl (by decide +kernel) ⟨Nat.le_of_ble_eq_true rfl, Nat.le_of_ble_eq_true rfl⟩) ⟨(fun a U g mk q => ⟨q.1, q.2.1, GE.calling q.2.2⟩), (fun U hU hW => ⟨rfl, by rw [hU]; exact hPc, GE.warm hW G⟩)⟩ rfl rfl hl.1 rfl (lv_room (Nat.le_of_ble_eq_true rfl)) dX7_image_3 ⟨Nat.le_of_ble_eq_true rfl, Nat.le_of_ble_eq_true rfl⟩) (fun qr3 hqr3 => ?_)
  obtain ⟨hqr3, hnr3⟩ := hqr3
  obtain rfl := hqr3.symm
  refine lv_if_ne (tgt := 14) hx hb dX7_image_6 (by decide) (fun c1 => ?_) (fun c1 => ?_)
  · replace hf := it_f c1 hf
    refine lv_aload_n hx hb dX7_image_14 rfl (lv_at hl 0 rfl) ?_
    refine lv_iload_n hx hb dX7_image_15 rfl (lv_at hl 1 rfl) ?_
    by_cases c2 : x1 = 0
    · replace hf := it_t c2 hf
      have hPc : va_P (dC, dI) vwCl (wB g B) _ := hP.l.l.l.l.l.l.l.l
      refine va_csr (W.runV (As := [.int (x1)]) (rest := []) C (c_X7_imageAt0 l dC dI cs g B x1 c2) (cwV 1 hts gX7_image_X7_imageAt rfl rfl rfl (by decide +kernel) ⟨Nat.le_of_ble_eq_true rfl, Nat.le_of_ble_eq_true rfl⟩) ⟨(fun a U g mk q => ⟨q.1, q.2.1, GE.calling q.2.2⟩), va_recv hK hPc (ci := 7) (q0 := 0) rfl rfl, (fun U hU hW => ⟨rfl, by rw [hU]; exact hPc, GE.warm hW G⟩)⟩ rfl rfl hl.1 rfl (lv_room (Nat.le_of_ble_eq_true rfl)) dX7_image_16 ⟨Nat.le_of_ble_eq_true rfl, Nat.le_of_ble_eq_true rfl⟩) (fun _ _ => ?_)
      refine lv_astore_n (lv' := [(2, .ref (g 14)), (0, .ref (g 0)), (1, .int (x1))]) hx hb dX7_image_19 rfl hl (by decide) rfl (fun ls hl => ?_)
      refine lv_aload_n hx hb dX7_image_20 rfl (lv_at hl 0 rfl) ?_
      refine va_get (D := (dC, dI)) (ci := 2) (v := .ref (g 15)) (C := RX2) (T := TX2) (N := 3) hx hb hts in_X7_image_X2 hown hK hP 14 rfl rfl 0 (by decide) (hts (.fieldLink RX7 274 "BackLoans$Image" "town" "LBackLoans$Town;") (by decide +kernel)) (fun _ h9 => h9) rfl dX7_image_21 ?_
      refine lv_aload_n hx hb dX7_image_24 rfl (lv_at hl 1 rfl) ?_
      refine va_get (D := (dC, dI)) (ci := 7) (v := .ref (g 1)) (C := RX7) (T := TX7) (N := 11) hx hb hts in_X7_image_X7 hown hK hP 0 rfl rfl 0 (by decide) (hts (.fieldLink RX7 10 "BackLoans" "now" "LBackLoans$Town;") (by decide +kernel)) (fun _ h9 => h9) rfl dX7_image_25 ?_
      obtain ⟨r28, hr28, hf⟩ := bn_e hf
      have hPc : va_P (dC, dI) vwCl (wT cs (fun i => g (15 + i)) T1 ++ wT cs (fun i => g (1 + i)) N) _ := (hP.l.l.l.l.r).app (hP.l.l.l.l.l.l.l.r)
      have hec : ((wT cs (fun i => g (15 + i)) T1 ++ wT cs (fun i => g (1 + i)) N)).map Prod.fst = ([15, 16, 17, 18, 19, 20, 21, 22, 23, 24, 25, 1, 2, 3, 4, 5, 6, 7, 8, 9, 10, 11] : List Nat).map (g) := rfl
      have hDc := vD_adr hJ [15, 16, 17, 18, 19, 20, 21, 22, 23, 24, 25, 1, 2, 3, 4, 5, 6, 7, 8, 9, 10, 11] (by decide) (by decide) hec
      have hFc := vF_adr hDc hS hA
      refine va_callv (va_runV (As := [.ref (g 1)]) (rest := []) C (c_X5_copyFrom l dC dI cs (fun i => g (15 + i)) (fun i => g (1 + i)) s.heap.size T1 N r28 hr28) (cwV 1 hts gX7_image_X5_copyFrom rfl rfl rfl (by decide +kernel) ⟨Nat.le_of_ble_eq_true rfl, Nat.le_of_ble_eq_true rfl⟩) ⟨(fun a U g mk q => ⟨q.1, q.2.1, q.2.2.1, GE.calling q.2.2.2.1, q.2.2.2.2⟩), va_recv hK hPc (ci := 5) (q0 := 0) rfl rfl, (fun U hU hW => ⟨rfl, by rw [hU], by rw [hU]; exact hPc, GE.warm hW G, hDc.weaken (fun _ _ _ _ => trivial)⟩)⟩ rfl rfl hl.1 rfl (lv_room (Nat.le_of_ble_eq_true rfl)) dX7_image_28 ⟨Nat.le_of_ble_eq_true rfl, Nat.le_of_ble_eq_true rfl⟩) hS (fun q _ h => hFc q h) hFc (fun u t H1 locs ht hvm hw hB hz1 hk1 hS => ?_)
      obtain rfl := hw.symm
      obtain ⟨hP1, -⟩ := hB
      rw [ht] at hP1
      have hP : va_P (dC, dI) vwCl (wB g B ++ wT cs (fun i => g (1 + i)) N ++ wP cs (fun i => g (12 + i)) P ++ wI (g 14) (g 15) (g 26) I1 ++ wT cs (fun i => g (15 + i)) r28 ++ wP cs (fun i => g (26 + i)) P1 ++ wI (g 28) (g 29) (g 40) I2 ++ wT cs (fun i => g (29 + i)) T2 ++ wP cs (fun i => g (40 + i)) P2) H1 := (((((((((vP_keep hJ (hP.l.l.l.l.l.l.l.l) [0] [15, 16, 17, 18, 19, 20, 21, 22, 23, 24, 25, 1, 2, 3, 4, 5, 6, 7, 8, 9, 10, 11] rfl hec (by decide) (by decide) hk1)).app (hP1.r)).app ((vP_keep hJ (hP.l.l.l.l.l.l.r) [12, 13] [15, 16, 17, 18, 19, 20, 21, 22, 23, 24, 25, 1, 2, 3, 4, 5, 6, 7, 8, 9, 10, 11] rfl hec (by decide) (by decide) hk1))).app ((vP_keep hJ (hP.l.l.l.l.l.r) [14] [15, 16, 17, 18, 19, 20, 21, 22, 23, 24, 25, 1, 2, 3, 4, 5, 6, 7, 8, 9, 10, 11] rfl hec (by decide) (by decide) hk1))).app (hP1.l)).app ((vP_keep hJ (hP.l.l.l.r) [26, 27] [15, 16, 17, 18, 19, 20, 21, 22, 23, 24, 25, 1, 2, 3, 4, 5, 6, 7, 8, 9, 10, 11] rfl hec (by decide) (by decide) hk1))).app ((vP_keep hJ (hP.l.l.r) [28] [15, 16, 17, 18, 19, 20, 21, 22, 23, 24, 25, 1, 2, 3, 4, 5, 6, 7, 8, 9, 10, 11] rfl hec (by decide) (by decide) hk1))).app ((vP_keep hJ (hP.l.r) [29, 30, 31, 32, 33, 34, 35, 36, 37, 38, 39] [15, 16, 17, 18, 19, 20, 21, 22, 23, 24, 25, 1, 2, 3, 4, 5, 6, 7, 8, 9, 10, 11] rfl hec (by decide) (by decide) hk1))).app ((vP_keep hJ (hP.r) [40, 41] [15, 16, 17, 18, 19, 20, 21, 22, 23, 24, 25, 1, 2, 3, 4, 5, 6, 7, 8, 9, 10, 11] rfl hec (by decide) (by decide) hk1))
      generalize H1 = H at hP hS ⊢
      refine lv_aload_n hx hb dX7_image_31 rfl (lv_at hl 0 rfl) ?_
      refine va_get (D := (dC, dI)) (ci := 2) (v := .ref (g 26)) (C := RX2) (T := TX2) (N := 3) hx hb hts in_X7_image_X2 hown hK hP 14 rfl rfl 1 (by decide) (hts (.fieldLink RX7 277 "BackLoans$Image" "past" "LBackLoans$Past;") (by decide +kernel)) (fun _ h9 => h9) rfl dX7_image_32 ?_
      refine lv_aload_n hx hb dX7_image_35 rfl (lv_at hl 1 rfl) ?_
      refine va_get (D := (dC, dI)) (ci := 7) (v := .ref (g 12)) (C := RX7) (T := TX7) (N := 11) hx hb hts in_X7_image_X7 hown hK hP 0 rfl rfl 1 (by decide) (hts (.fieldLink RX7 19 "BackLoans" "past" "LBackLoans$Past;") (by decide +kernel)) (fun _ h9 => h9) rfl dX7_image_36 ?_
      obtain ⟨r39, hr39, hf⟩ := bn_e hf
      have hPc : va_P (dC, dI) vwCl (wP cs (fun i => g (26 + i)) P1 ++ wP cs (fun i => g (12 + i)) P) _ := (hP.l.l.l.r).app (hP.l.l.l.l.l.l.r)
      have hec : ((wP cs (fun i => g (26 + i)) P1 ++ wP cs (fun i => g (12 + i)) P)).map Prod.fst = ([26, 27, 12, 13] : List Nat).map (g) := rfl
      have hDc := vD_adr hJ [26, 27, 12, 13] (by decide) (by decide) hec
      have hFc := vF_adr hDc hS hA
      refine va_callv (va_runV (As := [.ref (g 12)]) (rest := []) C (c_X3_copyFrom l dC dI cs (fun i => g (26 + i)) (fun i => g (12 + i)) H.size P1 P r39 hr39) (cwV 1 hts gX7_image_X3_copyFrom rfl rfl rfl (by decide +kernel) ⟨Nat.le_of_ble_eq_true rfl, Nat.le_of_ble_eq_true rfl⟩) ⟨(fun a U g mk q => ⟨q.1, q.2.1, q.2.2.1, GE.calling q.2.2.2.1, q.2.2.2.2⟩), va_recv hK hPc (ci := 3) (q0 := 0) rfl rfl, (fun U hU hW => ⟨rfl, by rw [hU], by rw [hU]; exact hPc, GE.warm hW G, hDc.weaken (fun _ _ _ _ => trivial)⟩)⟩ rfl rfl hl.1 rfl (lv_room (Nat.le_of_ble_eq_true rfl)) dX7_image_39 ⟨Nat.le_of_ble_eq_true rfl, Nat.le_of_ble_eq_true rfl⟩) hS (fun q _ h => hFc q h) hFc (fun u t H1 locs ht hvm hw hB hz1 hk1 hS => ?_)
      obtain rfl := hw.symm
      obtain ⟨hP1, -⟩ := hB
      rw [ht] at hP1
      have hP : va_P (dC, dI) vwCl (wB g B ++ wT cs (fun i => g (1 + i)) N ++ wP cs (fun i => g (12 + i)) P ++ wI (g 14) (g 15) (g 26) I1 ++ wT cs (fun i => g (15 + i)) r28 ++ wP cs (fun i => g (26 + i)) r39 ++ wI (g 28) (g 29) (g 40) I2 ++ wT cs (fun i => g (29 + i)) T2 ++ wP cs (fun i => g (40 + i)) P2) H1 := (((((((((vP_keep hJ (hP.l.l.l.l.l.l.l.l) [0] [26, 27, 12, 13] rfl hec (by decide) (by decide) hk1)).app ((vP_keep hJ (hP.l.l.l.l.l.l.l.r) [1, 2, 3, 4, 5, 6, 7, 8, 9, 10, 11] [26, 27, 12, 13] rfl hec (by decide) (by decide) hk1))).app (hP1.r)).app ((vP_keep hJ (hP.l.l.l.l.l.r) [14] [26, 27, 12, 13] rfl hec (by decide) (by decide) hk1))).app ((vP_keep hJ (hP.l.l.l.l.r) [15, 16, 17, 18, 19, 20, 21, 22, 23, 24, 25] [26, 27, 12, 13] rfl hec (by decide) (by decide) hk1))).app (hP1.l)).app ((vP_keep hJ (hP.l.l.r) [28] [26, 27, 12, 13] rfl hec (by decide) (by decide) hk1))).app ((vP_keep hJ (hP.l.r) [29, 30, 31, 32, 33, 34, 35, 36, 37, 38, 39] [26, 27, 12, 13] rfl hec (by decide) (by decide) hk1))).app ((vP_keep hJ (hP.r) [40, 41] [26, 27, 12, 13] rfl hec (by decide) (by decide) hk1))
      generalize H1 = H at hP hS ⊢
      refine lv_aload_n hx hb dX7_image_42 rfl (lv_at hl 0 rfl) ?_
      refine lv_iconst (v := 1) hx hb dX7_image_43 (by decide) ?_
      have hD : va_D A (wB g B ++ wT cs (fun i => g (1 + i)) N ++ wP cs (fun i => g (12 + i)) P ++ wI (g 14) (g 15) (g 26) I1 ++ wT cs (fun i => g (15 + i)) r28 ++ wP cs (fun i => g (26 + i)) r39 ++ wI (g 28) (g 29) (g 40) I2 ++ wT cs (fun i => g (29 + i)) T2 ++ wP cs (fun i => g (40 + i)) P2) := vD_adr hJ [0, 1, 2, 3, 4, 5, 6, 7, 8, 9, 10, 11, 12, 13, 14, 15, 16, 17, 18, 19, 20, 21, 22, 23, 24, 25, 26, 27, 28, 29, 30, 31, 32, 33, 34, 35, 36, 37, 38, 39, 40, 41] (by decide) (by decide) rfl
      refine va_put (D := (dC, dI)) (ci := 2) (v := .int ((1 : Int32))) (ty := .boolean) (C := RX2) (T := TX2) (N := 3) hx hb hts in_X7_image_X2 tyX2 tyX2_ok nmX2 hown hK hP hD hS 14 rfl rfl 2 (by decide) (hts (.fieldLink RX7 281 "BackLoans$Image" "kept" "Z") (by decide +kernel)) (fun _ h9 => h9) rfl (by decide +kernel) rfl rfl (Nat.le_of_ble_eq_true rfl) dX7_image_44 (fun H locs hP hD hS => ?_)
      obtain ⟨I1_44, hP, hD, hf⟩ := st_nm (ws := fun I1_44 : Int32 => (wB g B ++ wT cs (fun i => g (1 + i)) N ++ wP cs (fun i => g (12 + i)) P ++ wI (g 14) (g 15) (g 26) I1_44 ++ wT cs (fun i => g (15 + i)) r28 ++ wP cs (fun i => g (26 + i)) r39 ++ wI (g 28) (g 29) (g 40) I2 ++ wT cs (fun i => g (29 + i)) T2 ++ wP cs (fun i => g (40 + i)) P2)) ((1 : Int32)) hP hD hf
      refine lv_iconst (v := 1) hx hb dX7_image_47 (by decide) ?_
      have hD : va_D A (wB g B ++ wT cs (fun i => g (1 + i)) N ++ wP cs (fun i => g (12 + i)) P ++ wI (g 14) (g 15) (g 26) I1_44 ++ wT cs (fun i => g (15 + i)) r28 ++ wP cs (fun i => g (26 + i)) r39 ++ wI (g 28) (g 29) (g 40) I2 ++ wT cs (fun i => g (29 + i)) T2 ++ wP cs (fun i => g (40 + i)) P2) := vD_adr hJ [0, 1, 2, 3, 4, 5, 6, 7, 8, 9, 10, 11, 12, 13, 14, 15, 16, 17, 18, 19, 20, 21, 22, 23, 24, 25, 26, 27, 28, 29, 30, 31, 32, 33, 34, 35, 36, 37, 38, 39, 40, 41] (by decide) (by decide) rfl
      exact hR _ _ _ _ _ _ dX7_image_48 hf hP hD hS
    · replace hf := it_f c2 hf
      have hPc : va_P (dC, dI) vwCl (wB g B) _ := hP.l.l.l.l.l.l.l.l
      refine va_csr (W.runV (As := [.int (x1)]) (rest := []) C (c_X7_imageAt1 l dC dI cs g B x1 c2) (cwV 1 hts gX7_image_X7_imageAt rfl rfl rfl (by decide +kernel) ⟨Nat.le_of_ble_eq_true rfl, Nat.le_of_ble_eq_true rfl⟩) ⟨(fun a U g mk q => ⟨q.1, q.2.1, GE.calling q.2.2⟩), va_recv hK hPc (ci := 7) (q0 := 0) rfl rfl, (fun U hU hW => ⟨rfl, by rw [hU]; exact hPc, GE.warm hW G⟩)⟩ rfl rfl hl.1 rfl (lv_room (Nat.le_of_ble_eq_true rfl)) dX7_image_16 ⟨Nat.le_of_ble_eq_true rfl, Nat.le_of_ble_eq_true rfl⟩) (fun _ _ => ?_)
      refine lv_astore_n (lv' := [(2, .ref (g 28)), (0, .ref (g 0)), (1, .int (x1))]) hx hb dX7_image_19 rfl hl (by decide) rfl (fun ls hl => ?_)
      refine lv_aload_n hx hb dX7_image_20 rfl (lv_at hl 0 rfl) ?_
      refine va_get (D := (dC, dI)) (ci := 2) (v := .ref (g 29)) (C := RX2) (T := TX2) (N := 3) hx hb hts in_X7_image_X2 hown hK hP 28 rfl rfl 0 (by decide) (hts (.fieldLink RX7 274 "BackLoans$Image" "town" "LBackLoans$Town;") (by decide +kernel)) (fun _ h9 => h9) rfl dX7_image_21 ?_
      refine lv_aload_n hx hb dX7_image_24 rfl (lv_at hl 1 rfl) ?_
      refine va_get (D := (dC, dI)) (ci := 7) (v := .ref (g 1)) (C := RX7) (T := TX7) (N := 11) hx hb hts in_X7_image_X7 hown hK hP 0 rfl rfl 0 (by decide) (hts (.fieldLink RX7 10 "BackLoans" "now" "LBackLoans$Town;") (by decide +kernel)) (fun _ h9 => h9) rfl dX7_image_25 ?_
      obtain ⟨r28, hr28, hf⟩ := bn_e hf
      have hPc : va_P (dC, dI) vwCl (wT cs (fun i => g (29 + i)) T2 ++ wT cs (fun i => g (1 + i)) N) _ := (hP.l.r).app (hP.l.l.l.l.l.l.l.r)
      have hec : ((wT cs (fun i => g (29 + i)) T2 ++ wT cs (fun i => g (1 + i)) N)).map Prod.fst = ([29, 30, 31, 32, 33, 34, 35, 36, 37, 38, 39, 1, 2, 3, 4, 5, 6, 7, 8, 9, 10, 11] : List Nat).map (g) := rfl
      have hDc := vD_adr hJ [29, 30, 31, 32, 33, 34, 35, 36, 37, 38, 39, 1, 2, 3, 4, 5, 6, 7, 8, 9, 10, 11] (by decide) (by decide) hec
      have hFc := vF_adr hDc hS hA
      refine va_callv (va_runV (As := [.ref (g 1)]) (rest := []) C (c_X5_copyFrom l dC dI cs (fun i => g (29 + i)) (fun i => g (1 + i)) s.heap.size T2 N r28 hr28) (cwV 1 hts gX7_image_X5_copyFrom rfl rfl rfl (by decide +kernel) ⟨Nat.le_of_ble_eq_true rfl, Nat.le_of_ble_eq_true rfl⟩) ⟨(fun a U g mk q => ⟨q.1, q.2.1, q.2.2.1, GE.calling q.2.2.2.1, q.2.2.2.2⟩), va_recv hK hPc (ci := 5) (q0 := 0) rfl rfl, (fun U hU hW => ⟨rfl, by rw [hU], by rw [hU]; exact hPc, GE.warm hW G, hDc.weaken (fun _ _ _ _ => trivial)⟩)⟩ rfl rfl hl.1 rfl (lv_room (Nat.le_of_ble_eq_true rfl)) dX7_image_28 ⟨Nat.le_of_ble_eq_true rfl, Nat.le_of_ble_eq_true rfl⟩) hS (fun q _ h => hFc q h) hFc (fun u t H1 locs ht hvm hw hB hz1 hk1 hS => ?_)
      obtain rfl := hw.symm
      obtain ⟨hP1, -⟩ := hB
      rw [ht] at hP1
      have hP : va_P (dC, dI) vwCl (wB g B ++ wT cs (fun i => g (1 + i)) N ++ wP cs (fun i => g (12 + i)) P ++ wI (g 14) (g 15) (g 26) I1 ++ wT cs (fun i => g (15 + i)) T1 ++ wP cs (fun i => g (26 + i)) P1 ++ wI (g 28) (g 29) (g 40) I2 ++ wT cs (fun i => g (29 + i)) r28 ++ wP cs (fun i => g (40 + i)) P2) H1 := (((((((((vP_keep hJ (hP.l.l.l.l.l.l.l.l) [0] [29, 30, 31, 32, 33, 34, 35, 36, 37, 38, 39, 1, 2, 3, 4, 5, 6, 7, 8, 9, 10, 11] rfl hec (by decide) (by decide) hk1)).app (hP1.r)).app ((vP_keep hJ (hP.l.l.l.l.l.l.r) [12, 13] [29, 30, 31, 32, 33, 34, 35, 36, 37, 38, 39, 1, 2, 3, 4, 5, 6, 7, 8, 9, 10, 11] rfl hec (by decide) (by decide) hk1))).app ((vP_keep hJ (hP.l.l.l.l.l.r) [14] [29, 30, 31, 32, 33, 34, 35, 36, 37, 38, 39, 1, 2, 3, 4, 5, 6, 7, 8, 9, 10, 11] rfl hec (by decide) (by decide) hk1))).app ((vP_keep hJ (hP.l.l.l.l.r) [15, 16, 17, 18, 19, 20, 21, 22, 23, 24, 25] [29, 30, 31, 32, 33, 34, 35, 36, 37, 38, 39, 1, 2, 3, 4, 5, 6, 7, 8, 9, 10, 11] rfl hec (by decide) (by decide) hk1))).app ((vP_keep hJ (hP.l.l.l.r) [26, 27] [29, 30, 31, 32, 33, 34, 35, 36, 37, 38, 39, 1, 2, 3, 4, 5, 6, 7, 8, 9, 10, 11] rfl hec (by decide) (by decide) hk1))).app ((vP_keep hJ (hP.l.l.r) [28] [29, 30, 31, 32, 33, 34, 35, 36, 37, 38, 39, 1, 2, 3, 4, 5, 6, 7, 8, 9, 10, 11] rfl hec (by decide) (by decide) hk1))).app (hP1.l)).app ((vP_keep hJ (hP.r) [40, 41] [29, 30, 31, 32, 33, 34, 35, 36, 37, 38, 39, 1, 2, 3, 4, 5, 6, 7, 8, 9, 10, 11] rfl hec (by decide) (by decide) hk1))
      generalize H1 = H at hP hS ⊢
      refine lv_aload_n hx hb dX7_image_31 rfl (lv_at hl 0 rfl) ?_
      refine va_get (D := (dC, dI)) (ci := 2) (v := .ref (g 40)) (C := RX2) (T := TX2) (N := 3) hx hb hts in_X7_image_X2 hown hK hP 28 rfl rfl 1 (by decide) (hts (.fieldLink RX7 277 "BackLoans$Image" "past" "LBackLoans$Past;") (by decide +kernel)) (fun _ h9 => h9) rfl dX7_image_32 ?_
      refine lv_aload_n hx hb dX7_image_35 rfl (lv_at hl 1 rfl) ?_
      refine va_get (D := (dC, dI)) (ci := 7) (v := .ref (g 12)) (C := RX7) (T := TX7) (N := 11) hx hb hts in_X7_image_X7 hown hK hP 0 rfl rfl 1 (by decide) (hts (.fieldLink RX7 19 "BackLoans" "past" "LBackLoans$Past;") (by decide +kernel)) (fun _ h9 => h9) rfl dX7_image_36 ?_
      obtain ⟨r39, hr39, hf⟩ := bn_e hf
      have hPc : va_P (dC, dI) vwCl (wP cs (fun i => g (40 + i)) P2 ++ wP cs (fun i => g (12 + i)) P) _ := (hP.r).app (hP.l.l.l.l.l.l.r)
      have hec : ((wP cs (fun i => g (40 + i)) P2 ++ wP cs (fun i => g (12 + i)) P)).map Prod.fst = ([40, 41, 12, 13] : List Nat).map (g) := rfl
      have hDc := vD_adr hJ [40, 41, 12, 13] (by decide) (by decide) hec
      have hFc := vF_adr hDc hS hA
      refine va_callv (va_runV (As := [.ref (g 12)]) (rest := []) C (c_X3_copyFrom l dC dI cs (fun i => g (40 + i)) (fun i => g (12 + i)) H.size P2 P r39 hr39) (cwV 1 hts gX7_image_X3_copyFrom rfl rfl rfl (by decide +kernel) ⟨Nat.le_of_ble_eq_true rfl, Nat.le_of_ble_eq_true rfl⟩) ⟨(fun a U g mk q => ⟨q.1, q.2.1, q.2.2.1, GE.calling q.2.2.2.1, q.2.2.2.2⟩), va_recv hK hPc (ci := 3) (q0 := 0) rfl rfl, (fun U hU hW => ⟨rfl, by rw [hU], by rw [hU]; exact hPc, GE.warm hW G, hDc.weaken (fun _ _ _ _ => trivial)⟩)⟩ rfl rfl hl.1 rfl (lv_room (Nat.le_of_ble_eq_true rfl)) dX7_image_39 ⟨Nat.le_of_ble_eq_true rfl, Nat.le_of_ble_eq_true rfl⟩) hS (fun q _ h => hFc q h) hFc (fun u t H1 locs ht hvm hw hB hz1 hk1 hS => ?_)
      obtain rfl := hw.symm
      obtain ⟨hP1, -⟩ := hB
      rw [ht] at hP1
      have hP : va_P (dC, dI) vwCl (wB g B ++ wT cs (fun i => g (1 + i)) N ++ wP cs (fun i => g (12 + i)) P ++ wI (g 14) (g 15) (g 26) I1 ++ wT cs (fun i => g (15 + i)) T1 ++ wP cs (fun i => g (26 + i)) P1 ++ wI (g 28) (g 29) (g 40) I2 ++ wT cs (fun i => g (29 + i)) r28 ++ wP cs (fun i => g (40 + i)) r39) H1 := (((((((((vP_keep hJ (hP.l.l.l.l.l.l.l.l) [0] [40, 41, 12, 13] rfl hec (by decide) (by decide) hk1)).app ((vP_keep hJ (hP.l.l.l.l.l.l.l.r) [1, 2, 3, 4, 5, 6, 7, 8, 9, 10, 11] [40, 41, 12, 13] rfl hec (by decide) (by decide) hk1))).app (hP1.r)).app ((vP_keep hJ (hP.l.l.l.l.l.r) [14] [40, 41, 12, 13] rfl hec (by decide) (by decide) hk1))).app ((vP_keep hJ (hP.l.l.l.l.r) [15, 16, 17, 18, 19, 20, 21, 22, 23, 24, 25] [40, 41, 12, 13] rfl hec (by decide) (by decide) hk1))).app ((vP_keep hJ (hP.l.l.l.r) [26, 27] [40, 41, 12, 13] rfl hec (by decide) (by decide) hk1))).app ((vP_keep hJ (hP.l.l.r) [28] [40, 41, 12, 13] rfl hec (by decide) (by decide) hk1))).app ((vP_keep hJ (hP.l.r) [29, 30, 31, 32, 33, 34, 35, 36, 37, 38, 39] [40, 41, 12, 13] rfl hec (by decide) (by decide) hk1))).app (hP1.l)
      generalize H1 = H at hP hS ⊢
      refine lv_aload_n hx hb dX7_image_42 rfl (lv_at hl 0 rfl) ?_
      refine lv_iconst (v := 1) hx hb dX7_image_43 (by decide) ?_
      have hD : va_D A (wB g B ++ wT cs (fun i => g (1 + i)) N ++ wP cs (fun i => g (12 + i)) P ++ wI (g 14) (g 15) (g 26) I1 ++ wT cs (fun i => g (15 + i)) T1 ++ wP cs (fun i => g (26 + i)) P1 ++ wI (g 28) (g 29) (g 40) I2 ++ wT cs (fun i => g (29 + i)) r28 ++ wP cs (fun i => g (40 + i)) r39) := vD_adr hJ [0, 1, 2, 3, 4, 5, 6, 7, 8, 9, 10, 11, 12, 13, 14, 15, 16, 17, 18, 19, 20, 21, 22, 23, 24, 25, 26, 27, 28, 29, 30, 31, 32, 33, 34, 35, 36, 37, 38, 39, 40, 41] (by decide) (by decide) rfl
      refine va_put (D := (dC, dI)) (ci := 2) (v := .int ((1 : Int32))) (ty := .boolean) (C := RX2) (T := TX2) (N := 3) hx hb hts in_X7_image_X2 tyX2 tyX2_ok nmX2 hown hK hP hD hS 28 rfl rfl 2 (by decide) (hts (.fieldLink RX7 281 "BackLoans$Image" "kept" "Z") (by decide +kernel)) (fun _ h9 => h9) rfl (by decide +kernel) rfl rfl (Nat.le_of_ble_eq_true rfl) dX7_image_44 (fun H locs hP hD hS => ?_)
      obtain ⟨I2_44, hP, hD, hf⟩ := st_nm (ws := fun I2_44 : Int32 => (wB g B ++ wT cs (fun i => g (1 + i)) N ++ wP cs (fun i => g (12 + i)) P ++ wI (g 14) (g 15) (g 26) I1 ++ wT cs (fun i => g (15 + i)) T1 ++ wP cs (fun i => g (26 + i)) P1 ++ wI (g 28) (g 29) (g 40) I2_44 ++ wT cs (fun i => g (29 + i)) r28 ++ wP cs (fun i => g (40 + i)) r39)) ((1 : Int32)) hP hD hf
      refine lv_iconst (v := 1) hx hb dX7_image_47 (by decide) ?_
      have hD : va_D A (wB g B ++ wT cs (fun i => g (1 + i)) N ++ wP cs (fun i => g (12 + i)) P ++ wI (g 14) (g 15) (g 26) I1 ++ wT cs (fun i => g (15 + i)) T1 ++ wP cs (fun i => g (26 + i)) P1 ++ wI (g 28) (g 29) (g 40) I2_44 ++ wT cs (fun i => g (29 + i)) r28 ++ wP cs (fun i => g (40 + i)) r39) := vD_adr hJ [0, 1, 2, 3, 4, 5, 6, 7, 8, 9, 10, 11, 12, 13, 14, 15, 16, 17, 18, 19, 20, 21, 22, 23, 24, 25, 26, 27, 28, 29, 30, 31, 32, 33, 34, 35, 36, 37, 38, 39, 40, 41] (by decide) (by decide) rfl
      exact hR _ _ _ _ _ _ dX7_image_48 hf hP hD hS
  · replace hf := it_t c1 hf
    refine lv_aload_n hx hb dX7_image_9 rfl (lv_at hl 0 rfl) ?_
    obtain ⟨r10, hr10, hf⟩ := bn_e hf
    have hPc : va_P (dC, dI) vwCl (wB g B) _ := hP.l.l.l.l.l.l.l.l
    have hec : ((wB g B)).map Prod.fst = ([0] : List Nat).map (g) := rfl
    have hDc := vD_adr hJ [0] (by decide) (by decide) hec
    have hFc := vF_adr hDc hS hA
    refine va_calli (va_runV (As := []) (rest := []) C (c_X7_bad l dC dI cs g s.heap.size B r10 hr10) (cwV 0 hts gX7_image_X7_bad rfl rfl rfl (by decide +kernel) ⟨Nat.le_of_ble_eq_true rfl, Nat.le_of_ble_eq_true rfl⟩) ⟨(fun a U g mk q => ⟨q.1, q.2.1, q.2.2.1, GE.calling q.2.2.2.1, q.2.2.2.2⟩), va_recv hK hPc (ci := 7) (q0 := 0) rfl rfl, (fun U hU hW => ⟨rfl, by rw [hU], by rw [hU]; exact hPc, GE.warm hW G, hDc.weaken (fun _ _ _ _ => trivial)⟩)⟩ rfl rfl hl.1 rfl (lv_room (Nat.le_of_ble_eq_true rfl)) dX7_image_10 ⟨Nat.le_of_ble_eq_true rfl, Nat.le_of_ble_eq_true rfl⟩) hS (fun q _ h => hFc q h) hFc (fun q u t H1 locs ht hvm hw hB hz1 hk1 hS => ?_)
    obtain ⟨rfl, rfl⟩ := hw
    obtain ⟨hP1, -⟩ := hB
    rw [ht] at hP1
    have hP : va_P (dC, dI) vwCl (wB g r10.2 ++ wT cs (fun i => g (1 + i)) N ++ wP cs (fun i => g (12 + i)) P ++ wI (g 14) (g 15) (g 26) I1 ++ wT cs (fun i => g (15 + i)) T1 ++ wP cs (fun i => g (26 + i)) P1 ++ wI (g 28) (g 29) (g 40) I2 ++ wT cs (fun i => g (29 + i)) T2 ++ wP cs (fun i => g (40 + i)) P2) H1 := ((((((((hP1).app ((vP_keep hJ (hP.l.l.l.l.l.l.l.r) [1, 2, 3, 4, 5, 6, 7, 8, 9, 10, 11] [0] rfl hec (by decide) (by decide) hk1))).app ((vP_keep hJ (hP.l.l.l.l.l.l.r) [12, 13] [0] rfl hec (by decide) (by decide) hk1))).app ((vP_keep hJ (hP.l.l.l.l.l.r) [14] [0] rfl hec (by decide) (by decide) hk1))).app ((vP_keep hJ (hP.l.l.l.l.r) [15, 16, 17, 18, 19, 20, 21, 22, 23, 24, 25] [0] rfl hec (by decide) (by decide) hk1))).app ((vP_keep hJ (hP.l.l.l.r) [26, 27] [0] rfl hec (by decide) (by decide) hk1))).app ((vP_keep hJ (hP.l.l.r) [28] [0] rfl hec (by decide) (by decide) hk1))).app ((vP_keep hJ (hP.l.r) [29, 30, 31, 32, 33, 34, 35, 36, 37, 38, 39] [0] rfl hec (by decide) (by decide) hk1))).app ((vP_keep hJ (hP.r) [40, 41] [0] rfl hec (by decide) (by decide) hk1))
    generalize H1 = H at hP hS ⊢
    have hD : va_D A (wB g r10.2 ++ wT cs (fun i => g (1 + i)) N ++ wP cs (fun i => g (12 + i)) P ++ wI (g 14) (g 15) (g 26) I1 ++ wT cs (fun i => g (15 + i)) T1 ++ wP cs (fun i => g (26 + i)) P1 ++ wI (g 28) (g 29) (g 40) I2 ++ wT cs (fun i => g (29 + i)) T2 ++ wP cs (fun i => g (40 + i)) P2) := vD_adr hJ [0, 1, 2, 3, 4, 5, 6, 7, 8, 9, 10, 11, 12, 13, 14, 15, 16, 17, 18, 19, 20, 21, 22, 23, 24, 25, 26, 27, 28, 29, 30, 31, 32, 33, 34, 35, 36, 37, 38, 39, 40, 41] (by decide) (by decide) rfl
    exact hR _ _ _ _ _ _ dX7_image_13 hf hP hD hS

theorem in_X7_from_X2 : ∀ w ∈ wsX20, w ∈ wsX7_from := by decide +kernel
theorem in_X7_from_X7 : ∀ w ∈ wsX70, w ∈ wsX7_from := by decide +kernel
def f_X7_from (x1 : Int32) (B : Nat → Int32) (N : Tw) (P : Ps) (I1 : Int32) (T1 : Tw) (P1 : Ps) (I2 : Int32) (T2 : Tw) (P2 : Ps) : Option (Int32 × (Nat → Int32) × Tw × Ps) :=
  bn (f_X7_within x1 (0 : Int32) (1 : Int32)) fun r3 =>
  if r3 = 0 then (
    bn (f_X7_bad B) fun r10 =>
    some (r10.1, (r10.2, N, P))
  ) else (
    if x1 = 0 then (
      if I1 = 0 then (
        bn (f_X7_no B) fun r28 =>
        some (r28.1, (r28.2, N, P))
      ) else (
        bn (f_X5_copyFrom N T1) fun r40 =>
        bn (f_X3_copyFrom P P1) fun r51 =>
        some ((1 : Int32), (B, r40, r51))
      )
    ) else (
      if I2 = 0 then (
        bn (f_X7_no B) fun r28 =>
        some (r28.1, (r28.2, N, P))
      ) else (
        bn (f_X5_copyFrom N T2) fun r40 =>
        bn (f_X3_copyFrom P P2) fun r51 =>
        some ((1 : Int32), (B, r40, r51))
      )
    )
  )
set_option maxHeartbeats 4000000 in
set_option maxRecDepth 100000 in
theorem c_X7_from (l : Launch) (dC : Nat → ClassId) (dI : Nat → Nat → Nat) (cs : Nat → ClassId) (g : Nat → Nat) (sz : Nat) (B : Nat → Int32) (N : Tw) (P : Ps) (I1 : Int32) (T1 : Tw) (P1 : Ps) (I2 : Int32) (T2 : Tw) (P2 : Ps) (x1 : Int32) (res : Int32 × (Nat → Int32) × Tw × Ps) (hf : f_X7_from x1 B N P I1 T1 P1 I2 T2 P2 = some res) : Met l yX7_from wsX7_from ({ frames := 2, cells := 0, slots := 0, locals := 47 }) (va_Pc [.ref (g 0), .int (x1)] (fun U => U.heap.size = sz ∧ va_P (dC, dI) vwCl (wB g B ++ wT cs (fun i => g (1 + i)) N ++ wP cs (fun i => g (12 + i)) P ++ wI (g 14) (g 15) (g 26) I1 ++ wT cs (fun i => g (15 + i)) T1 ++ wP cs (fun i => g (26 + i)) P1 ++ wI (g 28) (g 29) (g 40) I2 ++ wT cs (fun i => g (29 + i)) T2 ++ wP cs (fun i => g (40 + i)) P2) U.heap ∧ GE dC dI cs U ∧ va_D (fun _ => True) (wB g B ++ wT cs (fun i => g (1 + i)) N ++ wP cs (fun i => g (12 + i)) P ++ wI (g 14) (g 15) (g 26) I1 ++ wT cs (fun i => g (15 + i)) T1 ++ wP cs (fun i => g (26 + i)) P1 ++ wI (g 28) (g 29) (g 40) I2 ++ wT cs (fun i => g (29 + i)) T2 ++ wP cs (fun i => g (40 + i)) P2))) (va_Qi (fun r (u : (Nat → Int32) × Tw × Ps) => r = res.1 ∧ u = res.2) (fun u t => va_P (dC, dI) vwCl ((fun u : (Nat → Int32) × Tw × Ps => (wB g u.1 ++ wT cs (fun i => g (1 + i)) u.2.1 ++ wP cs (fun i => g (12 + i)) u.2.2 ++ wI (g 14) (g 15) (g 26) I1 ++ wT cs (fun i => g (15 + i)) T1 ++ wP cs (fun i => g (26 + i)) P1 ++ wI (g 28) (g 29) (g 40) I2 ++ wT cs (fun i => g (29 + i)) T2 ++ wP cs (fun i => g (40 + i)) P2)) u) t.heap ∧ va_D (va_A (wB g B ++ wT cs (fun i => g (1 + i)) N ++ wP cs (fun i => g (12 + i)) P ++ wI (g 14) (g 15) (g 26) I1 ++ wT cs (fun i => g (15 + i)) T1 ++ wP cs (fun i => g (26 + i)) P1 ++ wI (g 28) (g 29) (g 40) I2 ++ wT cs (fun i => g (29 + i)) T2 ++ wP cs (fun i => g (40 + i)) P2) sz) ((fun u : (Nat → Int32) × Tw × Ps => (wB g u.1 ++ wT cs (fun i => g (1 + i)) u.2.1 ++ wP cs (fun i => g (12 + i)) u.2.2 ++ wI (g 14) (g 15) (g 26) I1 ++ wT cs (fun i => g (15 + i)) T1 ++ wP cs (fun i => g (26 + i)) P1 ++ wI (g 28) (g 29) (g 40) I2 ++ wT cs (fun i => g (29 + i)) T2 ++ wP cs (fun i => g (40 + i)) P2)) u)) (va_A (wB g B ++ wT cs (fun i => g (1 + i)) N ++ wP cs (fun i => g (12 + i)) P ++ wI (g 14) (g 15) (g 26) I1 ++ wT cs (fun i => g (15 + i)) T1 ++ wP cs (fun i => g (26 + i)) P1 ++ wI (g 28) (g 29) (g 40) I2 ++ wT cs (fun i => g (29 + i)) T2 ++ wP cs (fun i => g (40 + i)) P2) sz)) 0 0 (va_A (wB g B ++ wT cs (fun i => g (1 + i)) N ++ wP cs (fun i => g (12 + i)) P ++ wI (g 14) (g 15) (g 26) I1 ++ wT cs (fun i => g (15 + i)) T1 ++ wP cs (fun i => g (26 + i)) P1 ++ wI (g 28) (g 29) (g 40) I2 ++ wT cs (fun i => g (29 + i)) T2 ++ wP cs (fun i => g (40 + i)) P2) sz) := by
  refine Met.ofW (cc := cX7_from) (maxL := 3) (ret := (some .int)) (by decide) rfl ?_
  intro p e s m args below meth c s₁ Bd hml hv
  obtain ⟨rfl, hsz, hP, G, hD0⟩ := hv
  have hts := atoms_spec (ws := wsX7_from) Bd.pre
  have hown : s.vm.findClass RX7 = some m.cls := findClass_of_methodNamed Bd.named
  have hlocks := Bd.notSynchronized
  have hx := Bd.exec
  have hb := Bd.bytes
  have hr := Bd.returns
  have C : CallFix p m c cX7_from 3 s _ wsX7_from RX7 := ⟨hx, hb, hml, hown, hts⟩
  obtain ⟨hK, hN⟩ := id G
  subst hsz
  have hD := hD0.self (sz := s.heap.size)
  generalize hAe : va_A (wB g B ++ wT cs (fun i => g (1 + i)) N ++ wP cs (fun i => g (12 + i)) P ++ wI (g 14) (g 15) (g 26) I1 ++ wT cs (fun i => g (15 + i)) T1 ++ wP cs (fun i => g (26 + i)) P1 ++ wI (g 28) (g 29) (g 40) I2 ++ wT cs (fun i => g (29 + i)) T2 ++ wP cs (fun i => g (40 + i)) P2) s.heap.size = A at hD ⊢
  have hA : ∀ q : Nat, s.heap.size ≤ q → A q := fun q h => by rw [← hAe]; exact Or.inr h
  have hS : va_S A s.heap s.heap [] := va_S.rf
  have hJ : adI A g 42 := adI_of hD rfl
  have hR : RTi p l e ({ frames := 2, cells := 0, slots := 0, locals := 47 }) s m ([.ref (g 0), .int (x1)] : List Value).toArray below meth c cX7_from (MQ below (va_Qi (fun r (u : (Nat → Int32) × Tw × Ps) => r = res.1 ∧ u = res.2) (fun u t => va_P (dC, dI) vwCl ((fun u : (Nat → Int32) × Tw × Ps => (wB g u.1 ++ wT cs (fun i => g (1 + i)) u.2.1 ++ wP cs (fun i => g (12 + i)) u.2.2 ++ wI (g 14) (g 15) (g 26) I1 ++ wT cs (fun i => g (15 + i)) T1 ++ wP cs (fun i => g (26 + i)) P1 ++ wI (g 28) (g 29) (g 40) I2 ++ wT cs (fun i => g (29 + i)) T2 ++ wP cs (fun i => g (40 + i)) P2)) u) t.heap ∧ va_D A ((fun u : (Nat → Int32) × Tw × Ps => (wB g u.1 ++ wT cs (fun i => g (1 + i)) u.2.1 ++ wP cs (fun i => g (12 + i)) u.2.2 ++ wI (g 14) (g 15) (g 26) I1 ++ wT cs (fun i => g (15 + i)) T1 ++ wP cs (fun i => g (26 + i)) P1 ++ wI (g 28) (g 29) (g 40) I2 ++ wT cs (fun i => g (29 + i)) T2 ++ wP cs (fun i => g (40 + i)) P2)) u)) A) ([.ref (g 0), .int (x1)] : List Value).toArray s 0 0 A) (dC, dI) A (fun u : (Nat → Int32) × Tw × Ps => (wB g u.1 ++ wT cs (fun i => g (1 + i)) u.2.1 ++ wP cs (fun i => g (12 + i)) u.2.2 ++ wI (g 14) (g 15) (g 26) I1 ++ wT cs (fun i => g (15 + i)) T1 ++ wP cs (fun i => g (26 + i)) P1 ++ wI (g 28) (g 29) (g 40) I2 ++ wT cs (fun i => g (29 + i)) T2 ++ wP cs (fun i => g (40 + i)) P2)) res := fun H locs pc ls r u dd h hP hD hS => W.iret hx hb hr (fun t ht hW => ⟨⟨r, u, rfl, by cases h; exact ⟨rfl, rfl⟩, by rw [ht]; exact hP, hD⟩, hS.F ht⟩) hS.2.2 dd
  have hl := lv_entry ([.ref (g 0), .int (x1)]) (n := 3) (Nat.le_of_ble_eq_true rfl)
  rw [lg_entry_eq]
  generalize (lg_sl ([.ref (g 0), .int (x1)]) ++ List.replicate (3 - (lg_sl ([.ref (g 0), .int (x1)])).length) Slot.unset).toArray = ls at hl ⊢
  have hl : lv_has ls 3 [(0, .ref (g 0)), (1, .int (x1))] := hl
  unfold f_X7_from at hf
  refine lv_iload_n hx hb dX7_from_0 rfl (lv_at hl 1 rfl) ?_
  refine lv_iconst (v := 0) hx hb dX7_from_1 (by decide) ?_
  refine lv_iconst (v := 1) hx hb dX7_from_2 (by decide) ?_
  obtain ⟨r3, hr3, hf⟩ := bn_e hf
  have hPc := hP.sub (ws' := ([] : va_W)) [] rfl
  refine vp_callSi (W.runS (As := [.int (x1), .int ((0 : Int32)), .int ((1 : Int32))]) (rest := []) C (c_X7_within l dC dI cs x1 (0 : Int32) (1 : Int32) r3 hr3) (va_cwS 3 hts gX7_from_X7_within rfl rfl rfl (by decide +kernel) ⟨Nat.le_of_ble_eq_true rfl, Nat.le_of_ble_eq_true rfl⟩) ⟨(fun a U g mk q => ⟨q.1, q.2.1, GE.calling q.2.2⟩), (fun U hU hW => ⟨rfl, by rw [hU]; exact hPc, GE.warm hW G⟩)⟩ rfl rfl hl.1 rfl (lv_room (Nat.le_of_ble_eq_true rfl)) dX7_from_3 ⟨Nat.le_of_ble_eq_true rfl, Nat.le_of_ble_eq_true rfl⟩) (fun qr3 hqr3 => ?_)
  obtain ⟨hqr3, hnr3⟩ := hqr3
  obtain rfl := hqr3.symm
  refine lv_if_ne (tgt := 14) hx hb dX7_from_6 (by decide) (fun c1 => ?_) (fun c1 => ?_)
  · replace hf := it_f c1 hf
    refine lv_aload_n hx hb dX7_from_14 rfl (lv_at hl 0 rfl) ?_
    refine lv_iload_n hx hb dX7_from_15 rfl (lv_at hl 1 rfl) ?_
    by_cases c2 : x1 = 0
    · replace hf := it_t c2 hf
      have hPc : va_P (dC, dI) vwCl (wB g B) _ := hP.l.l.l.l.l.l.l.l
      refine va_csr (W.runV (As := [.int (x1)]) (rest := []) C (c_X7_imageAt0 l dC dI cs g B x1 c2) (cwV 1 hts gX7_from_X7_imageAt rfl rfl rfl (by decide +kernel) ⟨Nat.le_of_ble_eq_true rfl, Nat.le_of_ble_eq_true rfl⟩) ⟨(fun a U g mk q => ⟨q.1, q.2.1, GE.calling q.2.2⟩), va_recv hK hPc (ci := 7) (q0 := 0) rfl rfl, (fun U hU hW => ⟨rfl, by rw [hU]; exact hPc, GE.warm hW G⟩)⟩ rfl rfl hl.1 rfl (lv_room (Nat.le_of_ble_eq_true rfl)) dX7_from_16 ⟨Nat.le_of_ble_eq_true rfl, Nat.le_of_ble_eq_true rfl⟩) (fun _ _ => ?_)
      refine lv_astore_n (lv' := [(2, .ref (g 14)), (0, .ref (g 0)), (1, .int (x1))]) hx hb dX7_from_19 rfl hl (by decide) rfl (fun ls hl => ?_)
      refine lv_aload_n hx hb dX7_from_20 rfl (lv_at hl 0 rfl) ?_
      refine va_get (D := (dC, dI)) (ci := 2) (v := .int (I1)) (C := RX2) (T := TX2) (N := 3) hx hb hts in_X7_from_X2 hown hK hP 14 rfl rfl 2 (by decide) (hts (.fieldLink RX7 281 "BackLoans$Image" "kept" "Z") (by decide +kernel)) (fun _ h9 => h9) rfl dX7_from_21 ?_
      refine lv_if_ne (tgt := 32) hx hb dX7_from_24 (by decide) (fun c3 => ?_) (fun c3 => ?_)
      · replace hf := it_f c3 hf
        refine lv_aload_n hx hb dX7_from_32 rfl (lv_at hl 1 rfl) ?_
        refine va_get (D := (dC, dI)) (ci := 7) (v := .ref (g 1)) (C := RX7) (T := TX7) (N := 11) hx hb hts in_X7_from_X7 hown hK hP 0 rfl rfl 0 (by decide) (hts (.fieldLink RX7 10 "BackLoans" "now" "LBackLoans$Town;") (by decide +kernel)) (fun _ h9 => h9) rfl dX7_from_33 ?_
        refine lv_aload_n hx hb dX7_from_36 rfl (lv_at hl 0 rfl) ?_
        refine va_get (D := (dC, dI)) (ci := 2) (v := .ref (g 15)) (C := RX2) (T := TX2) (N := 3) hx hb hts in_X7_from_X2 hown hK hP 14 rfl rfl 0 (by decide) (hts (.fieldLink RX7 274 "BackLoans$Image" "town" "LBackLoans$Town;") (by decide +kernel)) (fun _ h9 => h9) rfl dX7_from_37 ?_
        obtain ⟨r40, hr40, hf⟩ := bn_e hf
        have hPc : va_P (dC, dI) vwCl (wT cs (fun i => g (1 + i)) N ++ wT cs (fun i => g (15 + i)) T1) _ := (hP.l.l.l.l.l.l.l.r).app (hP.l.l.l.l.r)
        have hec : ((wT cs (fun i => g (1 + i)) N ++ wT cs (fun i => g (15 + i)) T1)).map Prod.fst = ([1, 2, 3, 4, 5, 6, 7, 8, 9, 10, 11, 15, 16, 17, 18, 19, 20, 21, 22, 23, 24, 25] : List Nat).map (g) := rfl
        have hDc := vD_adr hJ [1, 2, 3, 4, 5, 6, 7, 8, 9, 10, 11, 15, 16, 17, 18, 19, 20, 21, 22, 23, 24, 25] (by decide) (by decide) hec
        have hFc := vF_adr hDc hS hA
        refine va_callv (va_runV (As := [.ref (g 15)]) (rest := []) C (c_X5_copyFrom l dC dI cs (fun i => g (1 + i)) (fun i => g (15 + i)) s.heap.size N T1 r40 hr40) (cwV 1 hts gX7_from_X5_copyFrom rfl rfl rfl (by decide +kernel) ⟨Nat.le_of_ble_eq_true rfl, Nat.le_of_ble_eq_true rfl⟩) ⟨(fun a U g mk q => ⟨q.1, q.2.1, q.2.2.1, GE.calling q.2.2.2.1, q.2.2.2.2⟩), va_recv hK hPc (ci := 5) (q0 := 0) rfl rfl, (fun U hU hW => ⟨rfl, by rw [hU], by rw [hU]; exact hPc, GE.warm hW G, hDc.weaken (fun _ _ _ _ => trivial)⟩)⟩ rfl rfl hl.1 rfl (lv_room (Nat.le_of_ble_eq_true rfl)) dX7_from_40 ⟨Nat.le_of_ble_eq_true rfl, Nat.le_of_ble_eq_true rfl⟩) hS (fun q _ h => hFc q h) hFc (fun u t H1 locs ht hvm hw hB hz1 hk1 hS => ?_)
        obtain rfl := hw.symm
        obtain ⟨hP1, -⟩ := hB
        rw [ht] at hP1
        have hP : va_P (dC, dI) vwCl (wB g B ++ wT cs (fun i => g (1 + i)) r40 ++ wP cs (fun i => g (12 + i)) P ++ wI (g 14) (g 15) (g 26) I1 ++ wT cs (fun i => g (15 + i)) T1 ++ wP cs (fun i => g (26 + i)) P1 ++ wI (g 28) (g 29) (g 40) I2 ++ wT cs (fun i => g (29 + i)) T2 ++ wP cs (fun i => g (40 + i)) P2) H1 := (((((((((vP_keep hJ (hP.l.l.l.l.l.l.l.l) [0] [1, 2, 3, 4, 5, 6, 7, 8, 9, 10, 11, 15, 16, 17, 18, 19, 20, 21, 22, 23, 24, 25] rfl hec (by decide) (by decide) hk1)).app (hP1.l)).app ((vP_keep hJ (hP.l.l.l.l.l.l.r) [12, 13] [1, 2, 3, 4, 5, 6, 7, 8, 9, 10, 11, 15, 16, 17, 18, 19, 20, 21, 22, 23, 24, 25] rfl hec (by decide) (by decide) hk1))).app ((vP_keep hJ (hP.l.l.l.l.l.r) [14] [1, 2, 3, 4, 5, 6, 7, 8, 9, 10, 11, 15, 16, 17, 18, 19, 20, 21, 22, 23, 24, 25] rfl hec (by decide) (by decide) hk1))).app (hP1.r)).app ((vP_keep hJ (hP.l.l.l.r) [26, 27] [1, 2, 3, 4, 5, 6, 7, 8, 9, 10, 11, 15, 16, 17, 18, 19, 20, 21, 22, 23, 24, 25] rfl hec (by decide) (by decide) hk1))).app ((vP_keep hJ (hP.l.l.r) [28] [1, 2, 3, 4, 5, 6, 7, 8, 9, 10, 11, 15, 16, 17, 18, 19, 20, 21, 22, 23, 24, 25] rfl hec (by decide) (by decide) hk1))).app ((vP_keep hJ (hP.l.r) [29, 30, 31, 32, 33, 34, 35, 36, 37, 38, 39] [1, 2, 3, 4, 5, 6, 7, 8, 9, 10, 11, 15, 16, 17, 18, 19, 20, 21, 22, 23, 24, 25] rfl hec (by decide) (by decide) hk1))).app ((vP_keep hJ (hP.r) [40, 41] [1, 2, 3, 4, 5, 6, 7, 8, 9, 10, 11, 15, 16, 17, 18, 19, 20, 21, 22, 23, 24, 25] rfl hec (by decide) (by decide) hk1))
        generalize H1 = H at hP hS ⊢
        refine lv_aload_n hx hb dX7_from_43 rfl (lv_at hl 1 rfl) ?_
        refine va_get (D := (dC, dI)) (ci := 7) (v := .ref (g 12)) (C := RX7) (T := TX7) (N := 11) hx hb hts in_X7_from_X7 hown hK hP 0 rfl rfl 1 (by decide) (hts (.fieldLink RX7 19 "BackLoans" "past" "LBackLoans$Past;") (by decide +kernel)) (fun _ h9 => h9) rfl dX7_from_44 ?_
        refine lv_aload_n hx hb dX7_from_47 rfl (lv_at hl 0 rfl) ?_
        refine va_get (D := (dC, dI)) (ci := 2) (v := .ref (g 26)) (C := RX2) (T := TX2) (N := 3) hx hb hts in_X7_from_X2 hown hK hP 14 rfl rfl 1 (by decide) (hts (.fieldLink RX7 277 "BackLoans$Image" "past" "LBackLoans$Past;") (by decide +kernel)) (fun _ h9 => h9) rfl dX7_from_48 ?_
        obtain ⟨r51, hr51, hf⟩ := bn_e hf
        have hPc : va_P (dC, dI) vwCl (wP cs (fun i => g (12 + i)) P ++ wP cs (fun i => g (26 + i)) P1) _ := (hP.l.l.l.l.l.l.r).app (hP.l.l.l.r)
        have hec : ((wP cs (fun i => g (12 + i)) P ++ wP cs (fun i => g (26 + i)) P1)).map Prod.fst = ([12, 13, 26, 27] : List Nat).map (g) := rfl
        have hDc := vD_adr hJ [12, 13, 26, 27] (by decide) (by decide) hec
        have hFc := vF_adr hDc hS hA
        refine va_callv (va_runV (As := [.ref (g 26)]) (rest := []) C (c_X3_copyFrom l dC dI cs (fun i => g (12 + i)) (fun i => g (26 + i)) H.size P P1 r51 hr51) (cwV 1 hts gX7_from_X3_copyFrom rfl rfl rfl (by decide +kernel) ⟨Nat.le_of_ble_eq_true rfl, Nat.le_of_ble_eq_true rfl⟩) ⟨(fun a U g mk q => ⟨q.1, q.2.1, q.2.2.1, GE.calling q.2.2.2.1, q.2.2.2.2⟩), va_recv hK hPc (ci := 3) (q0 := 0) rfl rfl, (fun U hU hW => ⟨rfl, by rw [hU], by rw [hU]; exact hPc, GE.warm hW G, hDc.weaken (fun _ _ _ _ => trivial)⟩)⟩ rfl rfl hl.1 rfl (lv_room (Nat.le_of_ble_eq_true rfl)) dX7_from_51 ⟨Nat.le_of_ble_eq_true rfl, Nat.le_of_ble_eq_true rfl⟩) hS (fun q _ h => hFc q h) hFc (fun u t H1 locs ht hvm hw hB hz1 hk1 hS => ?_)
        obtain rfl := hw.symm
        obtain ⟨hP1, -⟩ := hB
        rw [ht] at hP1
        have hP : va_P (dC, dI) vwCl (wB g B ++ wT cs (fun i => g (1 + i)) r40 ++ wP cs (fun i => g (12 + i)) r51 ++ wI (g 14) (g 15) (g 26) I1 ++ wT cs (fun i => g (15 + i)) T1 ++ wP cs (fun i => g (26 + i)) P1 ++ wI (g 28) (g 29) (g 40) I2 ++ wT cs (fun i => g (29 + i)) T2 ++ wP cs (fun i => g (40 + i)) P2) H1 := (((((((((vP_keep hJ (hP.l.l.l.l.l.l.l.l) [0] [12, 13, 26, 27] rfl hec (by decide) (by decide) hk1)).app ((vP_keep hJ (hP.l.l.l.l.l.l.l.r) [1, 2, 3, 4, 5, 6, 7, 8, 9, 10, 11] [12, 13, 26, 27] rfl hec (by decide) (by decide) hk1))).app (hP1.l)).app ((vP_keep hJ (hP.l.l.l.l.l.r) [14] [12, 13, 26, 27] rfl hec (by decide) (by decide) hk1))).app ((vP_keep hJ (hP.l.l.l.l.r) [15, 16, 17, 18, 19, 20, 21, 22, 23, 24, 25] [12, 13, 26, 27] rfl hec (by decide) (by decide) hk1))).app (hP1.r)).app ((vP_keep hJ (hP.l.l.r) [28] [12, 13, 26, 27] rfl hec (by decide) (by decide) hk1))).app ((vP_keep hJ (hP.l.r) [29, 30, 31, 32, 33, 34, 35, 36, 37, 38, 39] [12, 13, 26, 27] rfl hec (by decide) (by decide) hk1))).app ((vP_keep hJ (hP.r) [40, 41] [12, 13, 26, 27] rfl hec (by decide) (by decide) hk1))
        generalize H1 = H at hP hS ⊢
        refine lv_iconst (v := 1) hx hb dX7_from_54 (by decide) ?_
        have hD : va_D A (wB g B ++ wT cs (fun i => g (1 + i)) r40 ++ wP cs (fun i => g (12 + i)) r51 ++ wI (g 14) (g 15) (g 26) I1 ++ wT cs (fun i => g (15 + i)) T1 ++ wP cs (fun i => g (26 + i)) P1 ++ wI (g 28) (g 29) (g 40) I2 ++ wT cs (fun i => g (29 + i)) T2 ++ wP cs (fun i => g (40 + i)) P2) := vD_adr hJ [0, 1, 2, 3, 4, 5, 6, 7, 8, 9, 10, 11, 12, 13, 14, 15, 16, 17, 18, 19, 20, 21, 22, 23, 24, 25, 26, 27, 28, 29, 30, 31, 32, 33, 34, 35, 36, 37, 38, 39, 40, 41] (by decide) (by decide) rfl
        exact hR _ _ _ _ _ _ dX7_from_55 hf hP hD hS
      · replace hf := it_t c3 hf
        refine lv_aload_n hx hb dX7_from_27 rfl (lv_at hl 1 rfl) ?_
        obtain ⟨r28, hr28, hf⟩ := bn_e hf
        have hPc : va_P (dC, dI) vwCl (wB g B) _ := hP.l.l.l.l.l.l.l.l
        have hec : ((wB g B)).map Prod.fst = ([0] : List Nat).map (g) := rfl
        have hDc := vD_adr hJ [0] (by decide) (by decide) hec
        have hFc := vF_adr hDc hS hA
        refine va_calli (va_runV (As := []) (rest := []) C (c_X7_no l dC dI cs g s.heap.size B r28 hr28) (cwV 0 hts gX7_from_X7_no rfl rfl rfl (by decide +kernel) ⟨Nat.le_of_ble_eq_true rfl, Nat.le_of_ble_eq_true rfl⟩) ⟨(fun a U g mk q => ⟨q.1, q.2.1, q.2.2.1, GE.calling q.2.2.2.1, q.2.2.2.2⟩), va_recv hK hPc (ci := 7) (q0 := 0) rfl rfl, (fun U hU hW => ⟨rfl, by rw [hU], by rw [hU]; exact hPc, GE.warm hW G, hDc.weaken (fun _ _ _ _ => trivial)⟩)⟩ rfl rfl hl.1 rfl (lv_room (Nat.le_of_ble_eq_true rfl)) dX7_from_28 ⟨Nat.le_of_ble_eq_true rfl, Nat.le_of_ble_eq_true rfl⟩) hS (fun q _ h => hFc q h) hFc (fun q u t H1 locs ht hvm hw hB hz1 hk1 hS => ?_)
        obtain ⟨rfl, rfl⟩ := hw
        obtain ⟨hP1, -⟩ := hB
        rw [ht] at hP1
        have hP : va_P (dC, dI) vwCl (wB g r28.2 ++ wT cs (fun i => g (1 + i)) N ++ wP cs (fun i => g (12 + i)) P ++ wI (g 14) (g 15) (g 26) I1 ++ wT cs (fun i => g (15 + i)) T1 ++ wP cs (fun i => g (26 + i)) P1 ++ wI (g 28) (g 29) (g 40) I2 ++ wT cs (fun i => g (29 + i)) T2 ++ wP cs (fun i => g (40 + i)) P2) H1 := ((((((((hP1).app ((vP_keep hJ (hP.l.l.l.l.l.l.l.r) [1, 2, 3, 4, 5, 6, 7, 8, 9, 10, 11] [0] rfl hec (by decide) (by decide) hk1))).app ((vP_keep hJ (hP.l.l.l.l.l.l.r) [12, 13] [0] rfl hec (by decide) (by decide) hk1))).app ((vP_keep hJ (hP.l.l.l.l.l.r) [14] [0] rfl hec (by decide) (by decide) hk1))).app ((vP_keep hJ (hP.l.l.l.l.r) [15, 16, 17, 18, 19, 20, 21, 22, 23, 24, 25] [0] rfl hec (by decide) (by decide) hk1))).app ((vP_keep hJ (hP.l.l.l.r) [26, 27] [0] rfl hec (by decide) (by decide) hk1))).app ((vP_keep hJ (hP.l.l.r) [28] [0] rfl hec (by decide) (by decide) hk1))).app ((vP_keep hJ (hP.l.r) [29, 30, 31, 32, 33, 34, 35, 36, 37, 38, 39] [0] rfl hec (by decide) (by decide) hk1))).app ((vP_keep hJ (hP.r) [40, 41] [0] rfl hec (by decide) (by decide) hk1))
        generalize H1 = H at hP hS ⊢
        have hD : va_D A (wB g r28.2 ++ wT cs (fun i => g (1 + i)) N ++ wP cs (fun i => g (12 + i)) P ++ wI (g 14) (g 15) (g 26) I1 ++ wT cs (fun i => g (15 + i)) T1 ++ wP cs (fun i => g (26 + i)) P1 ++ wI (g 28) (g 29) (g 40) I2 ++ wT cs (fun i => g (29 + i)) T2 ++ wP cs (fun i => g (40 + i)) P2) := vD_adr hJ [0, 1, 2, 3, 4, 5, 6, 7, 8, 9, 10, 11, 12, 13, 14, 15, 16, 17, 18, 19, 20, 21, 22, 23, 24, 25, 26, 27, 28, 29, 30, 31, 32, 33, 34, 35, 36, 37, 38, 39, 40, 41] (by decide) (by decide) rfl
        exact hR _ _ _ _ _ _ dX7_from_31 hf hP hD hS
    · replace hf := it_f c2 hf
      have hPc : va_P (dC, dI) vwCl (wB g B) _ := hP.l.l.l.l.l.l.l.l
      refine va_csr (W.runV (As := [.int (x1)]) (rest := []) C (c_X7_imageAt1 l dC dI cs g B x1 c2) (cwV 1 hts gX7_from_X7_imageAt rfl rfl rfl (by decide +kernel) ⟨Nat.le_of_ble_eq_true rfl, Nat.le_of_ble_eq_true rfl⟩) ⟨(fun a U g mk q => ⟨q.1, q.2.1, GE.calling q.2.2⟩), va_recv hK hPc (ci := 7) (q0 := 0) rfl rfl, (fun U hU hW => ⟨rfl, by rw [hU]; exact hPc, GE.warm hW G⟩)⟩ rfl rfl hl.1 rfl (lv_room (Nat.le_of_ble_eq_true rfl)) dX7_from_16 ⟨Nat.le_of_ble_eq_true rfl, Nat.le_of_ble_eq_true rfl⟩) (fun _ _ => ?_)
      refine lv_astore_n (lv' := [(2, .ref (g 28)), (0, .ref (g 0)), (1, .int (x1))]) hx hb dX7_from_19 rfl hl (by decide) rfl (fun ls hl => ?_)
      refine lv_aload_n hx hb dX7_from_20 rfl (lv_at hl 0 rfl) ?_
      refine va_get (D := (dC, dI)) (ci := 2) (v := .int (I2)) (C := RX2) (T := TX2) (N := 3) hx hb hts in_X7_from_X2 hown hK hP 28 rfl rfl 2 (by decide) (hts (.fieldLink RX7 281 "BackLoans$Image" "kept" "Z") (by decide +kernel)) (fun _ h9 => h9) rfl dX7_from_21 ?_
      refine lv_if_ne (tgt := 32) hx hb dX7_from_24 (by decide) (fun c4 => ?_) (fun c4 => ?_)
      · replace hf := it_f c4 hf
        refine lv_aload_n hx hb dX7_from_32 rfl (lv_at hl 1 rfl) ?_
        refine va_get (D := (dC, dI)) (ci := 7) (v := .ref (g 1)) (C := RX7) (T := TX7) (N := 11) hx hb hts in_X7_from_X7 hown hK hP 0 rfl rfl 0 (by decide) (hts (.fieldLink RX7 10 "BackLoans" "now" "LBackLoans$Town;") (by decide +kernel)) (fun _ h9 => h9) rfl dX7_from_33 ?_
        refine lv_aload_n hx hb dX7_from_36 rfl (lv_at hl 0 rfl) ?_
        refine va_get (D := (dC, dI)) (ci := 2) (v := .ref (g 29)) (C := RX2) (T := TX2) (N := 3) hx hb hts in_X7_from_X2 hown hK hP 28 rfl rfl 0 (by decide) (hts (.fieldLink RX7 274 "BackLoans$Image" "town" "LBackLoans$Town;") (by decide +kernel)) (fun _ h9 => h9) rfl dX7_from_37 ?_
        obtain ⟨r40, hr40, hf⟩ := bn_e hf
        have hPc : va_P (dC, dI) vwCl (wT cs (fun i => g (1 + i)) N ++ wT cs (fun i => g (29 + i)) T2) _ := (hP.l.l.l.l.l.l.l.r).app (hP.l.r)
        have hec : ((wT cs (fun i => g (1 + i)) N ++ wT cs (fun i => g (29 + i)) T2)).map Prod.fst = ([1, 2, 3, 4, 5, 6, 7, 8, 9, 10, 11, 29, 30, 31, 32, 33, 34, 35, 36, 37, 38, 39] : List Nat).map (g) := rfl
        have hDc := vD_adr hJ [1, 2, 3, 4, 5, 6, 7, 8, 9, 10, 11, 29, 30, 31, 32, 33, 34, 35, 36, 37, 38, 39] (by decide) (by decide) hec
        have hFc := vF_adr hDc hS hA
        refine va_callv (va_runV (As := [.ref (g 29)]) (rest := []) C (c_X5_copyFrom l dC dI cs (fun i => g (1 + i)) (fun i => g (29 + i)) s.heap.size N T2 r40 hr40) (cwV 1 hts gX7_from_X5_copyFrom rfl rfl rfl (by decide +kernel) ⟨Nat.le_of_ble_eq_true rfl, Nat.le_of_ble_eq_true rfl⟩) ⟨(fun a U g mk q => ⟨q.1, q.2.1, q.2.2.1, GE.calling q.2.2.2.1, q.2.2.2.2⟩), va_recv hK hPc (ci := 5) (q0 := 0) rfl rfl, (fun U hU hW => ⟨rfl, by rw [hU], by rw [hU]; exact hPc, GE.warm hW G, hDc.weaken (fun _ _ _ _ => trivial)⟩)⟩ rfl rfl hl.1 rfl (lv_room (Nat.le_of_ble_eq_true rfl)) dX7_from_40 ⟨Nat.le_of_ble_eq_true rfl, Nat.le_of_ble_eq_true rfl⟩) hS (fun q _ h => hFc q h) hFc (fun u t H1 locs ht hvm hw hB hz1 hk1 hS => ?_)
        obtain rfl := hw.symm
        obtain ⟨hP1, -⟩ := hB
        rw [ht] at hP1
        have hP : va_P (dC, dI) vwCl (wB g B ++ wT cs (fun i => g (1 + i)) r40 ++ wP cs (fun i => g (12 + i)) P ++ wI (g 14) (g 15) (g 26) I1 ++ wT cs (fun i => g (15 + i)) T1 ++ wP cs (fun i => g (26 + i)) P1 ++ wI (g 28) (g 29) (g 40) I2 ++ wT cs (fun i => g (29 + i)) T2 ++ wP cs (fun i => g (40 + i)) P2) H1 := (((((((((vP_keep hJ (hP.l.l.l.l.l.l.l.l) [0] [1, 2, 3, 4, 5, 6, 7, 8, 9, 10, 11, 29, 30, 31, 32, 33, 34, 35, 36, 37, 38, 39] rfl hec (by decide) (by decide) hk1)).app (hP1.l)).app ((vP_keep hJ (hP.l.l.l.l.l.l.r) [12, 13] [1, 2, 3, 4, 5, 6, 7, 8, 9, 10, 11, 29, 30, 31, 32, 33, 34, 35, 36, 37, 38, 39] rfl hec (by decide) (by decide) hk1))).app ((vP_keep hJ (hP.l.l.l.l.l.r) [14] [1, 2, 3, 4, 5, 6, 7, 8, 9, 10, 11, 29, 30, 31, 32, 33, 34, 35, 36, 37, 38, 39] rfl hec (by decide) (by decide) hk1))).app ((vP_keep hJ (hP.l.l.l.l.r) [15, 16, 17, 18, 19, 20, 21, 22, 23, 24, 25] [1, 2, 3, 4, 5, 6, 7, 8, 9, 10, 11, 29, 30, 31, 32, 33, 34, 35, 36, 37, 38, 39] rfl hec (by decide) (by decide) hk1))).app ((vP_keep hJ (hP.l.l.l.r) [26, 27] [1, 2, 3, 4, 5, 6, 7, 8, 9, 10, 11, 29, 30, 31, 32, 33, 34, 35, 36, 37, 38, 39] rfl hec (by decide) (by decide) hk1))).app ((vP_keep hJ (hP.l.l.r) [28] [1, 2, 3, 4, 5, 6, 7, 8, 9, 10, 11, 29, 30, 31, 32, 33, 34, 35, 36, 37, 38, 39] rfl hec (by decide) (by decide) hk1))).app (hP1.r)).app ((vP_keep hJ (hP.r) [40, 41] [1, 2, 3, 4, 5, 6, 7, 8, 9, 10, 11, 29, 30, 31, 32, 33, 34, 35, 36, 37, 38, 39] rfl hec (by decide) (by decide) hk1))
        generalize H1 = H at hP hS ⊢
        refine lv_aload_n hx hb dX7_from_43 rfl (lv_at hl 1 rfl) ?_
        refine va_get (D := (dC, dI)) (ci := 7) (v := .ref (g 12)) (C := RX7) (T := TX7) (N := 11) hx hb hts in_X7_from_X7 hown hK hP 0 rfl rfl 1 (by decide) (hts (.fieldLink RX7 19 "BackLoans" "past" "LBackLoans$Past;") (by decide +kernel)) (fun _ h9 => h9) rfl dX7_from_44 ?_
        refine lv_aload_n hx hb dX7_from_47 rfl (lv_at hl 0 rfl) ?_
        refine va_get (D := (dC, dI)) (ci := 2) (v := .ref (g 40)) (C := RX2) (T := TX2) (N := 3) hx hb hts in_X7_from_X2 hown hK hP 28 rfl rfl 1 (by decide) (hts (.fieldLink RX7 277 "BackLoans$Image" "past" "LBackLoans$Past;") (by decide +kernel)) (fun _ h9 => h9) rfl dX7_from_48 ?_
        obtain ⟨r51, hr51, hf⟩ := bn_e hf
        have hPc : va_P (dC, dI) vwCl (wP cs (fun i => g (12 + i)) P ++ wP cs (fun i => g (40 + i)) P2) _ := (hP.l.l.l.l.l.l.r).app (hP.r)
        have hec : ((wP cs (fun i => g (12 + i)) P ++ wP cs (fun i => g (40 + i)) P2)).map Prod.fst = ([12, 13, 40, 41] : List Nat).map (g) := rfl
        have hDc := vD_adr hJ [12, 13, 40, 41] (by decide) (by decide) hec
        have hFc := vF_adr hDc hS hA
        refine va_callv (va_runV (As := [.ref (g 40)]) (rest := []) C (c_X3_copyFrom l dC dI cs (fun i => g (12 + i)) (fun i => g (40 + i)) H.size P P2 r51 hr51) (cwV 1 hts gX7_from_X3_copyFrom rfl rfl rfl (by decide +kernel) ⟨Nat.le_of_ble_eq_true rfl, Nat.le_of_ble_eq_true rfl⟩) ⟨(fun a U g mk q => ⟨q.1, q.2.1, q.2.2.1, GE.calling q.2.2.2.1, q.2.2.2.2⟩), va_recv hK hPc (ci := 3) (q0 := 0) rfl rfl, (fun U hU hW => ⟨rfl, by rw [hU], by rw [hU]; exact hPc, GE.warm hW G, hDc.weaken (fun _ _ _ _ => trivial)⟩)⟩ rfl rfl hl.1 rfl (lv_room (Nat.le_of_ble_eq_true rfl)) dX7_from_51 ⟨Nat.le_of_ble_eq_true rfl, Nat.le_of_ble_eq_true rfl⟩) hS (fun q _ h => hFc q h) hFc (fun u t H1 locs ht hvm hw hB hz1 hk1 hS => ?_)
        obtain rfl := hw.symm
        obtain ⟨hP1, -⟩ := hB
        rw [ht] at hP1
        have hP : va_P (dC, dI) vwCl (wB g B ++ wT cs (fun i => g (1 + i)) r40 ++ wP cs (fun i => g (12 + i)) r51 ++ wI (g 14) (g 15) (g 26) I1 ++ wT cs (fun i => g (15 + i)) T1 ++ wP cs (fun i => g (26 + i)) P1 ++ wI (g 28) (g 29) (g 40) I2 ++ wT cs (fun i => g (29 + i)) T2 ++ wP cs (fun i => g (40 + i)) P2) H1 := (((((((((vP_keep hJ (hP.l.l.l.l.l.l.l.l) [0] [12, 13, 40, 41] rfl hec (by decide) (by decide) hk1)).app ((vP_keep hJ (hP.l.l.l.l.l.l.l.r) [1, 2, 3, 4, 5, 6, 7, 8, 9, 10, 11] [12, 13, 40, 41] rfl hec (by decide) (by decide) hk1))).app (hP1.l)).app ((vP_keep hJ (hP.l.l.l.l.l.r) [14] [12, 13, 40, 41] rfl hec (by decide) (by decide) hk1))).app ((vP_keep hJ (hP.l.l.l.l.r) [15, 16, 17, 18, 19, 20, 21, 22, 23, 24, 25] [12, 13, 40, 41] rfl hec (by decide) (by decide) hk1))).app ((vP_keep hJ (hP.l.l.l.r) [26, 27] [12, 13, 40, 41] rfl hec (by decide) (by decide) hk1))).app ((vP_keep hJ (hP.l.l.r) [28] [12, 13, 40, 41] rfl hec (by decide) (by decide) hk1))).app ((vP_keep hJ (hP.l.r) [29, 30, 31, 32, 33, 34, 35, 36, 37, 38, 39] [12, 13, 40, 41] rfl hec (by decide) (by decide) hk1))).app (hP1.r)
        generalize H1 = H at hP hS ⊢
        refine lv_iconst (v := 1) hx hb dX7_from_54 (by decide) ?_
        have hD : va_D A (wB g B ++ wT cs (fun i => g (1 + i)) r40 ++ wP cs (fun i => g (12 + i)) r51 ++ wI (g 14) (g 15) (g 26) I1 ++ wT cs (fun i => g (15 + i)) T1 ++ wP cs (fun i => g (26 + i)) P1 ++ wI (g 28) (g 29) (g 40) I2 ++ wT cs (fun i => g (29 + i)) T2 ++ wP cs (fun i => g (40 + i)) P2) := vD_adr hJ [0, 1, 2, 3, 4, 5, 6, 7, 8, 9, 10, 11, 12, 13, 14, 15, 16, 17, 18, 19, 20, 21, 22, 23, 24, 25, 26, 27, 28, 29, 30, 31, 32, 33, 34, 35, 36, 37, 38, 39, 40, 41] (by decide) (by decide) rfl
        exact hR _ _ _ _ _ _ dX7_from_55 hf hP hD hS
      · replace hf := it_t c4 hf
        refine lv_aload_n hx hb dX7_from_27 rfl (lv_at hl 1 rfl) ?_
        obtain ⟨r28, hr28, hf⟩ := bn_e hf
        have hPc : va_P (dC, dI) vwCl (wB g B) _ := hP.l.l.l.l.l.l.l.l
        have hec : ((wB g B)).map Prod.fst = ([0] : List Nat).map (g) := rfl
        have hDc := vD_adr hJ [0] (by decide) (by decide) hec
        have hFc := vF_adr hDc hS hA
        refine va_calli (va_runV (As := []) (rest := []) C (c_X7_no l dC dI cs g s.heap.size B r28 hr28) (cwV 0 hts gX7_from_X7_no rfl rfl rfl (by decide +kernel) ⟨Nat.le_of_ble_eq_true rfl, Nat.le_of_ble_eq_true rfl⟩) ⟨(fun a U g mk q => ⟨q.1, q.2.1, q.2.2.1, GE.calling q.2.2.2.1, q.2.2.2.2⟩), va_recv hK hPc (ci := 7) (q0 := 0) rfl rfl, (fun U hU hW => ⟨rfl, by rw [hU], by rw [hU]; exact hPc, GE.warm hW G, hDc.weaken (fun _ _ _ _ => trivial)⟩)⟩ rfl rfl hl.1 rfl (lv_room (Nat.le_of_ble_eq_true rfl)) dX7_from_28 ⟨Nat.le_of_ble_eq_true rfl, Nat.le_of_ble_eq_true rfl⟩) hS (fun q _ h => hFc q h) hFc (fun q u t H1 locs ht hvm hw hB hz1 hk1 hS => ?_)
        obtain ⟨rfl, rfl⟩ := hw
        obtain ⟨hP1, -⟩ := hB
        rw [ht] at hP1
        have hP : va_P (dC, dI) vwCl (wB g r28.2 ++ wT cs (fun i => g (1 + i)) N ++ wP cs (fun i => g (12 + i)) P ++ wI (g 14) (g 15) (g 26) I1 ++ wT cs (fun i => g (15 + i)) T1 ++ wP cs (fun i => g (26 + i)) P1 ++ wI (g 28) (g 29) (g 40) I2 ++ wT cs (fun i => g (29 + i)) T2 ++ wP cs (fun i => g (40 + i)) P2) H1 := ((((((((hP1).app ((vP_keep hJ (hP.l.l.l.l.l.l.l.r) [1, 2, 3, 4, 5, 6, 7, 8, 9, 10, 11] [0] rfl hec (by decide) (by decide) hk1))).app ((vP_keep hJ (hP.l.l.l.l.l.l.r) [12, 13] [0] rfl hec (by decide) (by decide) hk1))).app ((vP_keep hJ (hP.l.l.l.l.l.r) [14] [0] rfl hec (by decide) (by decide) hk1))).app ((vP_keep hJ (hP.l.l.l.l.r) [15, 16, 17, 18, 19, 20, 21, 22, 23, 24, 25] [0] rfl hec (by decide) (by decide) hk1))).app ((vP_keep hJ (hP.l.l.l.r) [26, 27] [0] rfl hec (by decide) (by decide) hk1))).app ((vP_keep hJ (hP.l.l.r) [28] [0] rfl hec (by decide) (by decide) hk1))).app ((vP_keep hJ (hP.l.r) [29, 30, 31, 32, 33, 34, 35, 36, 37, 38, 39] [0] rfl hec (by decide) (by decide) hk1))).app ((vP_keep hJ (hP.r) [40, 41] [0] rfl hec (by decide) (by decide) hk1))
        generalize H1 = H at hP hS ⊢
        have hD : va_D A (wB g r28.2 ++ wT cs (fun i => g (1 + i)) N ++ wP cs (fun i => g (12 + i)) P ++ wI (g 14) (g 15) (g 26) I1 ++ wT cs (fun i => g (15 + i)) T1 ++ wP cs (fun i => g (26 + i)) P1 ++ wI (g 28) (g 29) (g 40) I2 ++ wT cs (fun i => g (29 + i)) T2 ++ wP cs (fun i => g (40 + i)) P2) := vD_adr hJ [0, 1, 2, 3, 4, 5, 6, 7, 8, 9, 10, 11, 12, 13, 14, 15, 16, 17, 18, 19, 20, 21, 22, 23, 24, 25, 26, 27, 28, 29, 30, 31, 32, 33, 34, 35, 36, 37, 38, 39, 40, 41] (by decide) (by decide) rfl
        exact hR _ _ _ _ _ _ dX7_from_31 hf hP hD hS
  · replace hf := it_t c1 hf
    refine lv_aload_n hx hb dX7_from_9 rfl (lv_at hl 0 rfl) ?_
    obtain ⟨r10, hr10, hf⟩ := bn_e hf
    have hPc : va_P (dC, dI) vwCl (wB g B) _ := hP.l.l.l.l.l.l.l.l
    have hec : ((wB g B)).map Prod.fst = ([0] : List Nat).map (g) := rfl
    have hDc := vD_adr hJ [0] (by decide) (by decide) hec
    have hFc := vF_adr hDc hS hA
    refine va_calli (va_runV (As := []) (rest := []) C (c_X7_bad l dC dI cs g s.heap.size B r10 hr10) (cwV 0 hts gX7_from_X7_bad rfl rfl rfl (by decide +kernel) ⟨Nat.le_of_ble_eq_true rfl, Nat.le_of_ble_eq_true rfl⟩) ⟨(fun a U g mk q => ⟨q.1, q.2.1, q.2.2.1, GE.calling q.2.2.2.1, q.2.2.2.2⟩), va_recv hK hPc (ci := 7) (q0 := 0) rfl rfl, (fun U hU hW => ⟨rfl, by rw [hU], by rw [hU]; exact hPc, GE.warm hW G, hDc.weaken (fun _ _ _ _ => trivial)⟩)⟩ rfl rfl hl.1 rfl (lv_room (Nat.le_of_ble_eq_true rfl)) dX7_from_10 ⟨Nat.le_of_ble_eq_true rfl, Nat.le_of_ble_eq_true rfl⟩) hS (fun q _ h => hFc q h) hFc (fun q u t H1 locs ht hvm hw hB hz1 hk1 hS => ?_)
    obtain ⟨rfl, rfl⟩ := hw
    obtain ⟨hP1, -⟩ := hB
    rw [ht] at hP1
    have hP : va_P (dC, dI) vwCl (wB g r10.2 ++ wT cs (fun i => g (1 + i)) N ++ wP cs (fun i => g (12 + i)) P ++ wI (g 14) (g 15) (g 26) I1 ++ wT cs (fun i => g (15 + i)) T1 ++ wP cs (fun i => g (26 + i)) P1 ++ wI (g 28) (g 29) (g 40) I2 ++ wT cs (fun i => g (29 + i)) T2 ++ wP cs (fun i => g (40 + i)) P2) H1 := ((((((((hP1).app ((vP_keep hJ (hP.l.l.l.l.l.l.l.r) [1, 2, 3, 4, 5, 6, 7, 8, 9, 10, 11] [0] rfl hec (by decide) (by decide) hk1))).app ((vP_keep hJ (hP.l.l.l.l.l.l.r) [12, 13] [0] rfl hec (by decide) (by decide) hk1))).app ((vP_keep hJ (hP.l.l.l.l.l.r) [14] [0] rfl hec (by decide) (by decide) hk1))).app ((vP_keep hJ (hP.l.l.l.l.r) [15, 16, 17, 18, 19, 20, 21, 22, 23, 24, 25] [0] rfl hec (by decide) (by decide) hk1))).app ((vP_keep hJ (hP.l.l.l.r) [26, 27] [0] rfl hec (by decide) (by decide) hk1))).app ((vP_keep hJ (hP.l.l.r) [28] [0] rfl hec (by decide) (by decide) hk1))).app ((vP_keep hJ (hP.l.r) [29, 30, 31, 32, 33, 34, 35, 36, 37, 38, 39] [0] rfl hec (by decide) (by decide) hk1))).app ((vP_keep hJ (hP.r) [40, 41] [0] rfl hec (by decide) (by decide) hk1))
    generalize H1 = H at hP hS ⊢
    have hD : va_D A (wB g r10.2 ++ wT cs (fun i => g (1 + i)) N ++ wP cs (fun i => g (12 + i)) P ++ wI (g 14) (g 15) (g 26) I1 ++ wT cs (fun i => g (15 + i)) T1 ++ wP cs (fun i => g (26 + i)) P1 ++ wI (g 28) (g 29) (g 40) I2 ++ wT cs (fun i => g (29 + i)) T2 ++ wP cs (fun i => g (40 + i)) P2) := vD_adr hJ [0, 1, 2, 3, 4, 5, 6, 7, 8, 9, 10, 11, 12, 13, 14, 15, 16, 17, 18, 19, 20, 21, 22, 23, 24, 25, 26, 27, 28, 29, 30, 31, 32, 33, 34, 35, 36, 37, 38, 39, 40, 41] (by decide) (by decide) rfl
    exact hR _ _ _ _ _ _ dX7_from_13 hf hP hD hS

theorem in_X7_status_X7 : ∀ w ∈ wsX70, w ∈ wsX7_status := by decide +kernel
def f_X7_status (x1 : Int32) (B : Nat → Int32) : Option (Int32 × (Nat → Int32)) :=
  if x1 = 0 then (
    some ((B 0), B)
  ) else (
  if x1 = 1 then (
    some ((B 1), B)
  ) else (
  if x1 = 2 then (
    some ((B 2), B)
  ) else (
  bn (f_X7_bad B) fun r44 =>
  some ((-1 : Int32), r44.2)
  )))
set_option maxHeartbeats 4000000 in
set_option maxRecDepth 100000 in
theorem c_X7_status (l : Launch) (dC : Nat → ClassId) (dI : Nat → Nat → Nat) (cs : Nat → ClassId) (g : Nat → Nat) (sz : Nat) (B : Nat → Int32) (x1 : Int32) (res : Int32 × (Nat → Int32)) (hf : f_X7_status x1 B = some res) : Met l yX7_status wsX7_status ({ frames := 1, cells := 0, slots := 0, locals := 20 }) (va_Pc [.ref (g 0), .int (x1)] (fun U => U.heap.size = sz ∧ va_P (dC, dI) vwCl (wB g B) U.heap ∧ GE dC dI cs U ∧ va_D (fun _ => True) (wB g B))) (va_Qi (fun r (u : (Nat → Int32)) => r = res.1 ∧ u = res.2) (fun u t => va_P (dC, dI) vwCl ((fun u : (Nat → Int32) => (wB g u)) u) t.heap ∧ va_D (va_A (wB g B) sz) ((fun u : (Nat → Int32) => (wB g u)) u)) (va_A (wB g B) sz)) 0 0 (va_A (wB g B) sz) := by
  refine Met.ofW (cc := cX7_status) (maxL := 2) (ret := (some .int)) (by decide) rfl ?_
  intro p e s m args below meth c s₁ Bd hml hv
  obtain ⟨rfl, hsz, hP, G, hD0⟩ := hv
  have hts := atoms_spec (ws := wsX7_status) Bd.pre
  have hown : s.vm.findClass RX7 = some m.cls := findClass_of_methodNamed Bd.named
  have hlocks := Bd.notSynchronized
  have hx := Bd.exec
  have hb := Bd.bytes
  have hr := Bd.returns
  have C : CallFix p m c cX7_status 2 s _ wsX7_status RX7 := ⟨hx, hb, hml, hown, hts⟩
  obtain ⟨hK, hN⟩ := id G
  subst hsz
  have hD := hD0.self (sz := s.heap.size)
  generalize hAe : va_A (wB g B) s.heap.size = A at hD ⊢
  have hA : ∀ q : Nat, s.heap.size ≤ q → A q := fun q h => by rw [← hAe]; exact Or.inr h
  have hS : va_S A s.heap s.heap [] := va_S.rf
  have hR : RTi p l e ({ frames := 1, cells := 0, slots := 0, locals := 20 }) s m ([.ref (g 0), .int (x1)] : List Value).toArray below meth c cX7_status (MQ below (va_Qi (fun r (u : (Nat → Int32)) => r = res.1 ∧ u = res.2) (fun u t => va_P (dC, dI) vwCl ((fun u : (Nat → Int32) => (wB g u)) u) t.heap ∧ va_D A ((fun u : (Nat → Int32) => (wB g u)) u)) A) ([.ref (g 0), .int (x1)] : List Value).toArray s 0 0 A) (dC, dI) A (fun u : (Nat → Int32) => (wB g u)) res := fun H locs pc ls r u dd h hP hD hS => W.iret hx hb hr (fun t ht hW => ⟨⟨r, u, rfl, by cases h; exact ⟨rfl, rfl⟩, by rw [ht]; exact hP, hD⟩, hS.F ht⟩) hS.2.2 dd
  have hl := lv_entry ([.ref (g 0), .int (x1)]) (n := 2) (Nat.le_of_ble_eq_true rfl)
  rw [lg_entry_eq]
  generalize (lg_sl ([.ref (g 0), .int (x1)]) ++ List.replicate (2 - (lg_sl ([.ref (g 0), .int (x1)])).length) Slot.unset).toArray = ls at hl ⊢
  have hl : lv_has ls 2 [(0, .ref (g 0)), (1, .int (x1))] := hl
  unfold f_X7_status at hf
  refine lv_iload_n hx hb dX7_status_0 rfl (lv_at hl 1 rfl) ?_
  by_cases c1 : x1 = 0
  · replace hf := it_t c1 hf
    refine lv_tableIn (tgt := 28) hx hb dX7_status_1 (by rw [c1]; decide) (by rw [c1]; decide) (by rw [c1]; rfl) (by decide) ?_
    refine lv_aload_n hx hb dX7_status_28 rfl (lv_at hl 0 rfl) ?_
    refine va_get (D := (dC, dI)) (ci := 7) (v := .int ((B 0))) (C := RX7) (T := TX7) (N := 11) hx hb hts in_X7_status_X7 hown hK hP 0 rfl rfl 8 (by decide) (hts (.fieldLink RX7 284 "BackLoans" "refusedBad" "I") (by decide +kernel)) (fun _ h9 => h9) rfl dX7_status_29 ?_
    exact hR _ _ _ _ _ _ dX7_status_32 hf hP hD hS
  replace hf := it_f c1 hf
  by_cases c2 : x1 = 1
  · replace hf := it_t c2 hf
    refine lv_tableIn (tgt := 33) hx hb dX7_status_1 (by rw [c2]; decide) (by rw [c2]; decide) (by rw [c2]; rfl) (by decide) ?_
    refine lv_aload_n hx hb dX7_status_33 rfl (lv_at hl 0 rfl) ?_
    refine va_get (D := (dC, dI)) (ci := 7) (v := .int ((B 1))) (C := RX7) (T := TX7) (N := 11) hx hb hts in_X7_status_X7 hown hK hP 0 rfl rfl 9 (by decide) (hts (.fieldLink RX7 287 "BackLoans" "refusedNo" "I") (by decide +kernel)) (fun _ h9 => h9) rfl dX7_status_34 ?_
    exact hR _ _ _ _ _ _ dX7_status_37 hf hP hD hS
  replace hf := it_f c2 hf
  by_cases c3 : x1 = 2
  · replace hf := it_t c3 hf
    refine lv_tableIn (tgt := 38) hx hb dX7_status_1 (by rw [c3]; decide) (by rw [c3]; decide) (by rw [c3]; rfl) (by decide) ?_
    refine lv_aload_n hx hb dX7_status_38 rfl (lv_at hl 0 rfl) ?_
    refine va_get (D := (dC, dI)) (ci := 7) (v := .int ((B 2))) (C := RX7) (T := TX7) (N := 11) hx hb hts in_X7_status_X7 hown hK hP 0 rfl rfl 10 (by decide) (hts (.fieldLink RX7 290 "BackLoans" "refusedFull" "I") (by decide +kernel)) (fun _ h9 => h9) rfl dX7_status_39 ?_
    exact hR _ _ _ _ _ _ dX7_status_42 hf hP hD hS
  replace hf := it_f c3 hf
  have nc1 := lv_neT (a := 0) c1 (by decide)
  have nc2 := lv_neT (a := 1) c2 (by decide)
  have nc3 := lv_neT (a := 2) c3 (by decide)
  refine lv_tableOut (tgt := 43) hx hb dX7_status_1 (by omega) (by decide) ?_
  refine lv_aload_n hx hb dX7_status_43 rfl (lv_at hl 0 rfl) ?_
  obtain ⟨r44, hr44, hf⟩ := bn_e hf
  have hPc := hP.sub (ws' := (wB g B)) [0] rfl
  have hDc := hD.sub (ws' := (wB g B)) [0] (by decide) rfl
  have hFc := va_free (wc := (wB g B)) hD hS hA [0] rfl
  refine va_calli (va_runV (As := []) (rest := []) C (c_X7_bad l dC dI cs g s.heap.size B r44 hr44) (cwV 0 hts gX7_status_X7_bad rfl rfl rfl (by decide +kernel) ⟨Nat.le_of_ble_eq_true rfl, Nat.le_of_ble_eq_true rfl⟩) ⟨(fun a U g mk q => ⟨q.1, q.2.1, q.2.2.1, GE.calling q.2.2.2.1, q.2.2.2.2⟩), va_recv hK hPc (ci := 7) (q0 := 0) rfl rfl, (fun U hU hW => ⟨rfl, by rw [hU], by rw [hU]; exact hPc, GE.warm hW G, hDc.weaken (fun _ _ _ _ => trivial)⟩)⟩ rfl rfl hl.1 rfl (lv_room (Nat.le_of_ble_eq_true rfl)) dX7_status_44 ⟨Nat.le_of_ble_eq_true rfl, Nat.le_of_ble_eq_true rfl⟩) hS (fun q _ h => hFc q h) hFc (fun q u t H1 locs ht hvm hw hB hz1 hk1 hS => ?_)
  obtain ⟨rfl, rfl⟩ := hw
  obtain ⟨hP1, hD1⟩ := hB
  rw [ht] at hP1
  obtain ⟨hP, hD⟩ := va_join (wr := []) (w1 := (wB g r44.2)) hP hD [0] [] rfl rfl (by decide) (by decide) hk1 hFc hP1 hD1
  generalize H1 = H at hP hS ⊢
  have hP := hP.sub (ws' := (wB g r44.2)) [0] rfl
  have hD := hD.sub (ws' := (wB g r44.2)) [0] (by decide) rfl
  refine lv_pop hx hb dX7_status_47 rfl ?_
  refine lv_iconst (v := -1) hx hb dX7_status_48 (by decide) ?_
  exact hR _ _ _ _ _ _ dX7_status_49 hf hP hD hS

theorem in_X7_countOf_X3 : ∀ w ∈ wsX30, w ∈ wsX7_countOf := by decide +kernel
theorem in_X7_countOf_X4 : ∀ w ∈ wsX40, w ∈ wsX7_countOf := by decide +kernel
theorem in_X7_countOf_X5 : ∀ w ∈ wsX50, w ∈ wsX7_countOf := by decide +kernel
theorem in_X7_countOf_X7 : ∀ w ∈ wsX70, w ∈ wsX7_countOf := by decide +kernel
def f_X7_countOf (x1 : Int32) (B : Nat → Int32) (N : Tw) (P : Ps) (X : Tx) : Option Int32 :=
  if x1 = 0 then (
    some (N.1 0)
  ) else (
  if x1 = 1 then (
    some (N.1 1)
  ) else (
  if x1 = 2 then (
    some (N.1 2)
  ) else (
  if x1 = 3 then (
    some (N.1 4)
  ) else (
  if x1 = 4 then (
    some (N.1 5)
  ) else (
  if x1 = 5 then (
    some (N.1 6)
  ) else (
  if x1 = 6 then (
    some (N.1 3)
  ) else (
  if x1 = 7 then (
    some P.1
  ) else (
  some (X.1 0)
  ))))))))
set_option maxHeartbeats 4000000 in
set_option maxRecDepth 100000 in
theorem c_X7_countOf (l : Launch) (dC : Nat → ClassId) (dI : Nat → Nat → Nat) (cs : Nat → ClassId) (g : Nat → Nat) (B : Nat → Int32) (N : Tw) (P : Ps) (X : Tx) (x1 : Int32) (res : Int32) (hf : f_X7_countOf x1 B N P X = some res) : Met l yX7_countOf wsX7_countOf ({ frames := 0, cells := 0, slots := 0, locals := 0 }) (va_Pc [.ref (g 0), .int (x1)] (fun U => va_P (dC, dI) vwCl (wB g B ++ wT cs (fun i => g (1 + i)) N ++ wP cs (fun i => g (12 + i)) P ++ wX cs (fun i => g (42 + i)) X) U.heap ∧ GE dC dI cs U)) (vp_Si (fun r => r = res)) 0 0 (fun _ => False) := by
  refine Met.ofW (cc := cX7_countOf) (maxL := 2) (ret := (some .int)) (by decide) rfl ?_
  intro p e s m args below meth c s₁ Bd hml hv
  obtain ⟨rfl, hP, G⟩ := hv
  have hts := atoms_spec (ws := wsX7_countOf) Bd.pre
  have hown : s.vm.findClass RX7 = some m.cls := findClass_of_methodNamed Bd.named
  have hlocks := Bd.notSynchronized
  have hx := Bd.exec
  have hb := Bd.bytes
  have hr := Bd.returns
  have C : CallFix p m c cX7_countOf 2 s _ wsX7_countOf RX7 := ⟨hx, hb, hml, hown, hts⟩
  obtain ⟨hK, hN⟩ := id G
  have hR : RPi p l e ({ frames := 0, cells := 0, slots := 0, locals := 0 }) s m ([.ref (g 0), .int (x1)] : List Value).toArray below meth c cX7_countOf (MQ below (vp_Si (fun r => r = res)) ([.ref (g 0), .int (x1)] : List Value).toArray s 0 0 (fun _ => False)) res := fun pc ls r dd h => W.iret hx hb hr (fun t ht hW => ⟨r, rfl, Option.some.inj h, ht⟩) (fun q hq => by cases hq) dd
  have hl := lv_entry ([.ref (g 0), .int (x1)]) (n := 2) (Nat.le_of_ble_eq_true rfl)
  rw [lg_entry_eq]
  generalize (lg_sl ([.ref (g 0), .int (x1)]) ++ List.replicate (2 - (lg_sl ([.ref (g 0), .int (x1)])).length) Slot.unset).toArray = ls at hl ⊢
  have hl : lv_has ls 2 [(0, .ref (g 0)), (1, .int (x1))] := hl
  unfold f_X7_countOf at hf
  refine lv_iload_n hx hb dX7_countOf_0 rfl (lv_at hl 1 rfl) ?_
  by_cases c1 : x1 = 0
  · replace hf := it_t c1 hf
    refine lv_tableIn (tgt := 48) hx hb dX7_countOf_1 (by rw [c1]; decide) (by rw [c1]; decide) (by rw [c1]; rfl) (by decide) ?_
    refine lv_aload_n hx hb dX7_countOf_48 rfl (lv_at hl 0 rfl) ?_
    refine va_get (D := (dC, dI)) (ci := 7) (v := .ref (g 1)) (C := RX7) (T := TX7) (N := 11) hx hb hts in_X7_countOf_X7 hown hK hP 0 rfl rfl 0 (by decide) (hts (.fieldLink RX7 10 "BackLoans" "now" "LBackLoans$Town;") (by decide +kernel)) (fun _ h9 => h9) rfl dX7_countOf_49 ?_
    refine va_get (D := (dC, dI)) (ci := 5) (v := .int ((N.1 0))) (C := RX5) (T := TX5) (N := 17) hx hb hts in_X7_countOf_X5 hown hK hP 1 rfl rfl 0 (by decide) (hts (.fieldLink RX7 70 "BackLoans$Town" "chest" "I") (by decide +kernel)) (fun _ h9 => h9) rfl dX7_countOf_52 ?_
    exact hR _ _ _ dX7_countOf_55 hf
  replace hf := it_f c1 hf
  by_cases c2 : x1 = 1
  · replace hf := it_t c2 hf
    refine lv_tableIn (tgt := 56) hx hb dX7_countOf_1 (by rw [c2]; decide) (by rw [c2]; decide) (by rw [c2]; rfl) (by decide) ?_
    refine lv_aload_n hx hb dX7_countOf_56 rfl (lv_at hl 0 rfl) ?_
    refine va_get (D := (dC, dI)) (ci := 7) (v := .ref (g 1)) (C := RX7) (T := TX7) (N := 11) hx hb hts in_X7_countOf_X7 hown hK hP 0 rfl rfl 0 (by decide) (hts (.fieldLink RX7 10 "BackLoans" "now" "LBackLoans$Town;") (by decide +kernel)) (fun _ h9 => h9) rfl dX7_countOf_57 ?_
    refine va_get (D := (dC, dI)) (ci := 5) (v := .int ((N.1 1))) (C := RX5) (T := TX5) (N := 17) hx hb hts in_X7_countOf_X5 hown hK hP 1 rfl rfl 1 (by decide) (hts (.fieldLink RX7 74 "BackLoans$Town" "rate" "I") (by decide +kernel)) (fun _ h9 => h9) rfl dX7_countOf_60 ?_
    exact hR _ _ _ dX7_countOf_63 hf
  replace hf := it_f c2 hf
  by_cases c3 : x1 = 2
  · replace hf := it_t c3 hf
    refine lv_tableIn (tgt := 64) hx hb dX7_countOf_1 (by rw [c3]; decide) (by rw [c3]; decide) (by rw [c3]; rfl) (by decide) ?_
    refine lv_aload_n hx hb dX7_countOf_64 rfl (lv_at hl 0 rfl) ?_
    refine va_get (D := (dC, dI)) (ci := 7) (v := .ref (g 1)) (C := RX7) (T := TX7) (N := 11) hx hb hts in_X7_countOf_X7 hown hK hP 0 rfl rfl 0 (by decide) (hts (.fieldLink RX7 10 "BackLoans" "now" "LBackLoans$Town;") (by decide +kernel)) (fun _ h9 => h9) rfl dX7_countOf_65 ?_
    refine va_get (D := (dC, dI)) (ci := 5) (v := .int ((N.1 2))) (C := RX5) (T := TX5) (N := 17) hx hb hts in_X7_countOf_X5 hown hK hP 1 rfl rfl 2 (by decide) (hts (.fieldLink RX7 304 "BackLoans$Town" "month" "I") (by decide +kernel)) (fun _ h9 => h9) rfl dX7_countOf_68 ?_
    exact hR _ _ _ dX7_countOf_71 hf
  replace hf := it_f c3 hf
  by_cases c4 : x1 = 3
  · replace hf := it_t c4 hf
    refine lv_tableIn (tgt := 72) hx hb dX7_countOf_1 (by rw [c4]; decide) (by rw [c4]; decide) (by rw [c4]; rfl) (by decide) ?_
    refine lv_aload_n hx hb dX7_countOf_72 rfl (lv_at hl 0 rfl) ?_
    refine va_get (D := (dC, dI)) (ci := 7) (v := .ref (g 1)) (C := RX7) (T := TX7) (N := 11) hx hb hts in_X7_countOf_X7 hown hK hP 0 rfl rfl 0 (by decide) (hts (.fieldLink RX7 10 "BackLoans" "now" "LBackLoans$Town;") (by decide +kernel)) (fun _ h9 => h9) rfl dX7_countOf_73 ?_
    refine va_get (D := (dC, dI)) (ci := 5) (v := .int ((N.1 4))) (C := RX5) (T := TX5) (N := 17) hx hb hts in_X7_countOf_X5 hown hK hP 1 rfl rfl 4 (by decide) (hts (.fieldLink RX7 77 "BackLoans$Town" "people" "I") (by decide +kernel)) (fun _ h9 => h9) rfl dX7_countOf_76 ?_
    exact hR _ _ _ dX7_countOf_79 hf
  replace hf := it_f c4 hf
  by_cases c5 : x1 = 4
  · replace hf := it_t c5 hf
    refine lv_tableIn (tgt := 80) hx hb dX7_countOf_1 (by rw [c5]; decide) (by rw [c5]; decide) (by rw [c5]; rfl) (by decide) ?_
    refine lv_aload_n hx hb dX7_countOf_80 rfl (lv_at hl 0 rfl) ?_
    refine va_get (D := (dC, dI)) (ci := 7) (v := .ref (g 1)) (C := RX7) (T := TX7) (N := 11) hx hb hts in_X7_countOf_X7 hown hK hP 0 rfl rfl 0 (by decide) (hts (.fieldLink RX7 10 "BackLoans" "now" "LBackLoans$Town;") (by decide +kernel)) (fun _ h9 => h9) rfl dX7_countOf_81 ?_
    refine va_get (D := (dC, dI)) (ci := 5) (v := .int ((N.1 5))) (C := RX5) (T := TX5) (N := 17) hx hb hts in_X7_countOf_X5 hown hK hP 1 rfl rfl 5 (by decide) (hts (.fieldLink RX7 91 "BackLoans$Town" "loans" "I") (by decide +kernel)) (fun _ h9 => h9) rfl dX7_countOf_84 ?_
    exact hR _ _ _ dX7_countOf_87 hf
  replace hf := it_f c5 hf
  by_cases c6 : x1 = 5
  · replace hf := it_t c6 hf
    refine lv_tableIn (tgt := 88) hx hb dX7_countOf_1 (by rw [c6]; decide) (by rw [c6]; decide) (by rw [c6]; rfl) (by decide) ?_
    refine lv_aload_n hx hb dX7_countOf_88 rfl (lv_at hl 0 rfl) ?_
    refine va_get (D := (dC, dI)) (ci := 7) (v := .ref (g 1)) (C := RX7) (T := TX7) (N := 11) hx hb hts in_X7_countOf_X7 hown hK hP 0 rfl rfl 0 (by decide) (hts (.fieldLink RX7 10 "BackLoans" "now" "LBackLoans$Town;") (by decide +kernel)) (fun _ h9 => h9) rfl dX7_countOf_89 ?_
    refine va_get (D := (dC, dI)) (ci := 5) (v := .int ((N.1 6))) (C := RX5) (T := TX5) (N := 17) hx hb hts in_X7_countOf_X5 hown hK hP 1 rfl rfl 6 (by decide) (hts (.fieldLink RX7 97 "BackLoans$Town" "offers" "I") (by decide +kernel)) (fun _ h9 => h9) rfl dX7_countOf_92 ?_
    exact hR _ _ _ dX7_countOf_95 hf
  replace hf := it_f c6 hf
  by_cases c7 : x1 = 6
  · replace hf := it_t c7 hf
    refine lv_tableIn (tgt := 96) hx hb dX7_countOf_1 (by rw [c7]; decide) (by rw [c7]; decide) (by rw [c7]; rfl) (by decide) ?_
    refine lv_aload_n hx hb dX7_countOf_96 rfl (lv_at hl 0 rfl) ?_
    refine va_get (D := (dC, dI)) (ci := 7) (v := .ref (g 1)) (C := RX7) (T := TX7) (N := 11) hx hb hts in_X7_countOf_X7 hown hK hP 0 rfl rfl 0 (by decide) (hts (.fieldLink RX7 10 "BackLoans" "now" "LBackLoans$Town;") (by decide +kernel)) (fun _ h9 => h9) rfl dX7_countOf_97 ?_
    refine va_get (D := (dC, dI)) (ci := 5) (v := .int ((N.1 3))) (C := RX5) (T := TX5) (N := 17) hx hb hts in_X7_countOf_X5 hown hK hP 1 rfl rfl 3 (by decide) (hts (.fieldLink RX7 193 "BackLoans$Town" "lacks" "I") (by decide +kernel)) (fun _ h9 => h9) rfl dX7_countOf_100 ?_
    exact hR _ _ _ dX7_countOf_103 hf
  replace hf := it_f c7 hf
  by_cases c8 : x1 = 7
  · replace hf := it_t c8 hf
    refine lv_tableIn (tgt := 104) hx hb dX7_countOf_1 (by rw [c8]; decide) (by rw [c8]; decide) (by rw [c8]; rfl) (by decide) ?_
    refine lv_aload_n hx hb dX7_countOf_104 rfl (lv_at hl 0 rfl) ?_
    refine va_get (D := (dC, dI)) (ci := 7) (v := .ref (g 12)) (C := RX7) (T := TX7) (N := 11) hx hb hts in_X7_countOf_X7 hown hK hP 0 rfl rfl 1 (by decide) (hts (.fieldLink RX7 19 "BackLoans" "past" "LBackLoans$Past;") (by decide +kernel)) (fun _ h9 => h9) rfl dX7_countOf_105 ?_
    refine va_get (D := (dC, dI)) (ci := 3) (v := .int (P.1)) (C := RX3) (T := TX3) (N := 2) hx hb hts in_X7_countOf_X3 hown hK hP 12 rfl rfl 0 (by decide) (hts (.fieldLink RX7 165 "BackLoans$Past" "kept" "I") (by decide +kernel)) (fun _ h9 => h9) rfl dX7_countOf_108 ?_
    exact hR _ _ _ dX7_countOf_111 hf
  replace hf := it_f c8 hf
  have nc1 := lv_neT (a := 0) c1 (by decide)
  have nc2 := lv_neT (a := 1) c2 (by decide)
  have nc3 := lv_neT (a := 2) c3 (by decide)
  have nc4 := lv_neT (a := 3) c4 (by decide)
  have nc5 := lv_neT (a := 4) c5 (by decide)
  have nc6 := lv_neT (a := 5) c6 (by decide)
  have nc7 := lv_neT (a := 6) c7 (by decide)
  have nc8 := lv_neT (a := 7) c8 (by decide)
  refine lv_tableOut (tgt := 112) hx hb dX7_countOf_1 (by omega) (by decide) ?_
  refine lv_aload_n hx hb dX7_countOf_112 rfl (lv_at hl 0 rfl) ?_
  refine va_get (D := (dC, dI)) (ci := 7) (v := .ref (g 42)) (C := RX7) (T := TX7) (N := 11) hx hb hts in_X7_countOf_X7 hown hK hP 0 rfl rfl 4 (by decide) (hts (.fieldLink RX7 36 "BackLoans" "text" "LBackLoans$Text;") (by decide +kernel)) (fun _ h9 => h9) rfl dX7_countOf_113 ?_
  refine va_get (D := (dC, dI)) (ci := 4) (v := .int ((X.1 0))) (C := RX4) (T := TX4) (N := 6) hx hb hts in_X7_countOf_X4 hown hK hP 14 rfl rfl 0 (by decide) (hts (.fieldLink RX7 104 "BackLoans$Text" "length" "I") (by decide +kernel)) (fun _ h9 => h9) rfl dX7_countOf_116 ?_
  exact hR _ _ _ dX7_countOf_119 hf

def f_X7_count (x1 : Int32) (B : Nat → Int32) (N : Tw) (P : Ps) (X : Tx) : Option (Int32 × (Nat → Int32)) :=
  bn (f_X7_within x1 (0 : Int32) (8 : Int32)) fun r4 =>
  if r4 = 0 then (
    bn (f_X7_bad B) fun r19 =>
    some (r19.1, r19.2)
  ) else (
    bn (f_X7_countOf x1 B N P X) fun r12 =>
    some (r12, B)
  )
set_option maxHeartbeats 4000000 in
set_option maxRecDepth 100000 in
theorem c_X7_count (l : Launch) (dC : Nat → ClassId) (dI : Nat → Nat → Nat) (cs : Nat → ClassId) (g : Nat → Nat) (sz : Nat) (B : Nat → Int32) (N : Tw) (P : Ps) (X : Tx) (x1 : Int32) (res : Int32 × (Nat → Int32)) (hf : f_X7_count x1 B N P X = some res) : Met l yX7_count wsX7_count ({ frames := 1, cells := 0, slots := 0, locals := 22 }) (va_Pc [.ref (g 0), .int (x1)] (fun U => U.heap.size = sz ∧ va_P (dC, dI) vwCl (wB g B ++ wT cs (fun i => g (1 + i)) N ++ wP cs (fun i => g (12 + i)) P ++ wX cs (fun i => g (42 + i)) X) U.heap ∧ GE dC dI cs U ∧ va_D (fun _ => True) (wB g B ++ wT cs (fun i => g (1 + i)) N ++ wP cs (fun i => g (12 + i)) P ++ wX cs (fun i => g (42 + i)) X))) (va_Qi (fun r (u : (Nat → Int32)) => r = res.1 ∧ u = res.2) (fun u t => va_P (dC, dI) vwCl ((fun u : (Nat → Int32) => (wB g u ++ wT cs (fun i => g (1 + i)) N ++ wP cs (fun i => g (12 + i)) P ++ wX cs (fun i => g (42 + i)) X)) u) t.heap ∧ va_D (va_A (wB g B ++ wT cs (fun i => g (1 + i)) N ++ wP cs (fun i => g (12 + i)) P ++ wX cs (fun i => g (42 + i)) X) sz) ((fun u : (Nat → Int32) => (wB g u ++ wT cs (fun i => g (1 + i)) N ++ wP cs (fun i => g (12 + i)) P ++ wX cs (fun i => g (42 + i)) X)) u)) (va_A (wB g B ++ wT cs (fun i => g (1 + i)) N ++ wP cs (fun i => g (12 + i)) P ++ wX cs (fun i => g (42 + i)) X) sz)) 0 0 (va_A (wB g B ++ wT cs (fun i => g (1 + i)) N ++ wP cs (fun i => g (12 + i)) P ++ wX cs (fun i => g (42 + i)) X) sz) := by
  refine Met.ofW (cc := cX7_count) (maxL := 2) (ret := (some .int)) (by decide) rfl ?_
  intro p e s m args below meth c s₁ Bd hml hv
  obtain ⟨rfl, hsz, hP, G, hD0⟩ := hv
  have hts := atoms_spec (ws := wsX7_count) Bd.pre
  have hown : s.vm.findClass RX7 = some m.cls := findClass_of_methodNamed Bd.named
  have hlocks := Bd.notSynchronized
  have hx := Bd.exec
  have hb := Bd.bytes
  have hr := Bd.returns
  have C : CallFix p m c cX7_count 2 s _ wsX7_count RX7 := ⟨hx, hb, hml, hown, hts⟩
  obtain ⟨hK, hN⟩ := id G
  subst hsz
  have hD := hD0.self (sz := s.heap.size)
  generalize hAe : va_A (wB g B ++ wT cs (fun i => g (1 + i)) N ++ wP cs (fun i => g (12 + i)) P ++ wX cs (fun i => g (42 + i)) X) s.heap.size = A at hD ⊢
  have hA : ∀ q : Nat, s.heap.size ≤ q → A q := fun q h => by rw [← hAe]; exact Or.inr h
  have hS : va_S A s.heap s.heap [] := va_S.rf
  have hR : RTi p l e ({ frames := 1, cells := 0, slots := 0, locals := 22 }) s m ([.ref (g 0), .int (x1)] : List Value).toArray below meth c cX7_count (MQ below (va_Qi (fun r (u : (Nat → Int32)) => r = res.1 ∧ u = res.2) (fun u t => va_P (dC, dI) vwCl ((fun u : (Nat → Int32) => (wB g u ++ wT cs (fun i => g (1 + i)) N ++ wP cs (fun i => g (12 + i)) P ++ wX cs (fun i => g (42 + i)) X)) u) t.heap ∧ va_D A ((fun u : (Nat → Int32) => (wB g u ++ wT cs (fun i => g (1 + i)) N ++ wP cs (fun i => g (12 + i)) P ++ wX cs (fun i => g (42 + i)) X)) u)) A) ([.ref (g 0), .int (x1)] : List Value).toArray s 0 0 A) (dC, dI) A (fun u : (Nat → Int32) => (wB g u ++ wT cs (fun i => g (1 + i)) N ++ wP cs (fun i => g (12 + i)) P ++ wX cs (fun i => g (42 + i)) X)) res := fun H locs pc ls r u dd h hP hD hS => W.iret hx hb hr (fun t ht hW => ⟨⟨r, u, rfl, by cases h; exact ⟨rfl, rfl⟩, by rw [ht]; exact hP, hD⟩, hS.F ht⟩) hS.2.2 dd
  have hl := lv_entry ([.ref (g 0), .int (x1)]) (n := 2) (Nat.le_of_ble_eq_true rfl)
  rw [lg_entry_eq]
  generalize (lg_sl ([.ref (g 0), .int (x1)]) ++ List.replicate (2 - (lg_sl ([.ref (g 0), .int (x1)])).length) Slot.unset).toArray = ls at hl ⊢
  have hl : lv_has ls 2 [(0, .ref (g 0)), (1, .int (x1))] := hl
  unfold f_X7_count at hf
  refine lv_iload_n hx hb dX7_count_0 rfl (lv_at hl 1 rfl) ?_
  refine lv_iconst (v := 0) hx hb dX7_count_1 (by decide) ?_
  refine lv_bipush (v := 8) hx hb dX7_count_2 (by decide) ?_
  obtain ⟨r4, hr4, hf⟩ := bn_e hf
  have hPc := hP.sub (ws' := ([] : va_W)) [] rfl
  refine vp_callSi (W.runS (As := [.int (x1), .int ((0 : Int32)), .int ((8 : Int32))]) (rest := []) C (c_X7_within l dC dI cs x1 (0 : Int32) (8 : Int32) r4 hr4) (va_cwS 3 hts gX7_count_X7_within rfl rfl rfl (by decide +kernel) ⟨Nat.le_of_ble_eq_true rfl, Nat.le_of_ble_eq_true rfl⟩) ⟨(fun a U g mk q => ⟨q.1, q.2.1, GE.calling q.2.2⟩), (fun U hU hW => ⟨rfl, by rw [hU]; exact hPc, GE.warm hW G⟩)⟩ rfl rfl hl.1 rfl (lv_room (Nat.le_of_ble_eq_true rfl)) dX7_count_4 ⟨Nat.le_of_ble_eq_true rfl, Nat.le_of_ble_eq_true rfl⟩) (fun qr4 hqr4 => ?_)
  obtain ⟨hqr4, hnr4⟩ := hqr4
  obtain rfl := hqr4.symm
  refine lv_if_eq (tgt := 18) hx hb dX7_count_7 (by decide) (fun c1 => ?_) (fun c1 => ?_)
  · replace hf := it_t c1 hf
    refine lv_aload_n hx hb dX7_count_18 rfl (lv_at hl 0 rfl) ?_
    obtain ⟨r19, hr19, hf⟩ := bn_e hf
    have hPc := hP.sub (ws' := (wB g B)) [0] rfl
    have hDc := hD.sub (ws' := (wB g B)) [0] (by decide) rfl
    have hFc := va_free (wc := (wB g B)) hD hS hA [0] rfl
    refine va_calli (va_runV (As := []) (rest := []) C (c_X7_bad l dC dI cs g s.heap.size B r19 hr19) (cwV 0 hts gX7_count_X7_bad rfl rfl rfl (by decide +kernel) ⟨Nat.le_of_ble_eq_true rfl, Nat.le_of_ble_eq_true rfl⟩) ⟨(fun a U g mk q => ⟨q.1, q.2.1, q.2.2.1, GE.calling q.2.2.2.1, q.2.2.2.2⟩), va_recv hK hPc (ci := 7) (q0 := 0) rfl rfl, (fun U hU hW => ⟨rfl, by rw [hU], by rw [hU]; exact hPc, GE.warm hW G, hDc.weaken (fun _ _ _ _ => trivial)⟩)⟩ rfl rfl hl.1 rfl (lv_room (Nat.le_of_ble_eq_true rfl)) dX7_count_19 ⟨Nat.le_of_ble_eq_true rfl, Nat.le_of_ble_eq_true rfl⟩) hS (fun q _ h => hFc q h) hFc (fun q u t H1 locs ht hvm hw hB hz1 hk1 hS => ?_)
    obtain ⟨rfl, rfl⟩ := hw
    obtain ⟨hP1, hD1⟩ := hB
    rw [ht] at hP1
    obtain ⟨hP, hD⟩ := va_join (wr := [1, 2, 3, 4, 5, 6, 7, 8, 9, 10, 11, 12, 13, 14, 15].filterMap (fun i => ((wB g B ++ wT cs (fun i => g (1 + i)) N ++ wP cs (fun i => g (12 + i)) P ++ wX cs (fun i => g (42 + i)) X))[i]?)) (w1 := (wB g r19.2)) hP hD [0] [1, 2, 3, 4, 5, 6, 7, 8, 9, 10, 11, 12, 13, 14, 15] rfl rfl (by decide) (by decide) hk1 hFc hP1 hD1
    generalize H1 = H at hP hS ⊢
    have hP := hP.sub (ws' := (wB g r19.2 ++ wT cs (fun i => g (1 + i)) N ++ wP cs (fun i => g (12 + i)) P ++ wX cs (fun i => g (42 + i)) X)) [15, 0, 1, 2, 3, 4, 5, 6, 7, 8, 9, 10, 11, 12, 13, 14] rfl
    have hD := hD.sub (ws' := (wB g r19.2 ++ wT cs (fun i => g (1 + i)) N ++ wP cs (fun i => g (12 + i)) P ++ wX cs (fun i => g (42 + i)) X)) [15, 0, 1, 2, 3, 4, 5, 6, 7, 8, 9, 10, 11, 12, 13, 14] (by decide) rfl
    exact hR _ _ _ _ _ _ dX7_count_22 hf hP hD hS
  · replace hf := it_f c1 hf
    refine lv_aload_n hx hb dX7_count_10 rfl (lv_at hl 0 rfl) ?_
    refine lv_iload_n hx hb dX7_count_11 rfl (lv_at hl 1 rfl) ?_
    obtain ⟨r12, hr12, hf⟩ := bn_e hf
    have hPc := hP.sub (ws' := (wB g B ++ wT cs (fun i => g (1 + i)) N ++ wP cs (fun i => g (12 + i)) P ++ wX cs (fun i => g (42 + i)) X)) [0, 1, 2, 3, 4, 5, 6, 7, 8, 9, 10, 11, 12, 13, 14, 15] rfl
    refine vp_callSi (W.runV (As := [.int (x1)]) (rest := []) C (c_X7_countOf l dC dI cs g B N P X x1 r12 hr12) (cwV 1 hts gX7_count_X7_countOf rfl rfl rfl (by decide +kernel) ⟨Nat.le_of_ble_eq_true rfl, Nat.le_of_ble_eq_true rfl⟩) ⟨(fun a U g mk q => ⟨q.1, q.2.1, GE.calling q.2.2⟩), va_recv hK hPc (ci := 7) (q0 := 0) rfl rfl, (fun U hU hW => ⟨rfl, by rw [hU]; exact hPc, GE.warm hW G⟩)⟩ rfl rfl hl.1 rfl (lv_room (Nat.le_of_ble_eq_true rfl)) dX7_count_12 ⟨Nat.le_of_ble_eq_true rfl, Nat.le_of_ble_eq_true rfl⟩) (fun qr12 hqr12 => ?_)
    obtain rfl := hqr12.symm
    refine lv_goto (tgt := 22) hx hb dX7_count_15 (by decide) ?_
    exact hR _ _ _ _ _ _ dX7_count_22 hf hP hD hS

theorem in_X7_digest_X0 : ∀ w ∈ wsX00, w ∈ wsX7_digest := by decide +kernel
theorem in_X7_digest_X7 : ∀ w ∈ wsX70, w ∈ wsX7_digest := by decide +kernel
def f_X7_digest_6 (x1 : Int64) (x3 : Int32) (B : Nat → Int32) (N : Tw) (P : Ps) (X : Tx) (K : Ch) (K6 : Int64 → Int32 → Option Int64) (K31 : Int64 → Option Int64) : Option Int64 :=
  if (8 : Int32) < x3 then (
    K31 x1
  ) else (
    bn (f_X7_countOf x3 B N P X) fun r19 =>
    lett (((31 : Int64) * x1) + (r19).toInt64) fun x1_24 =>
    lett (x3 + 1) fun x3_25 =>
    K6 x1_24 x3_25
  )
set_option maxHeartbeats 4000000 in
set_option maxRecDepth 100000 in
theorem b_X7_digest_6 {p : Program} {l : Launch} {e : Env} {s : State} {m : MethodId} {args : Array Value} {below : List Frame} {meth : Method} {c : Code} {Q : State → Prop} {dC : Nat → ClassId} {dI : Nat → Nat → Nat} {cs : Nat → ClassId} {g : Nat → Nat} {res : Int64} (C : CallFix p m c cX7_digest 4 s args wsX7_digest RX7) (G : GE dC dI cs s) (hR : RPl p l e ({ frames := 1, cells := 0, slots := 0, locals := 25 }) s m args below meth c cX7_digest Q res) {B : Nat → Int32} {N : Tw} {P : Ps} {X : Tx} {K : Ch} (hP : va_P (dC, dI) vwCl (wB g B ++ wT cs (fun i => g (1 + i)) N ++ wP cs (fun i => g (12 + i)) P ++ wX cs (fun i => g (42 + i)) X ++ wC cs (fun i => g (60 + i)) K) s.heap) (x1 : Int64) (x3 : Int32) (_ : Nat → Int32) (_ : Tw) (_ : Ps) (_ : Tx) (_ : Ch) {K6 : Int64 → Int32 → Option Int64} {K31 : Int64 → Option Int64} (hK6 : ∀ (x1 : Int64) (x3 : Int32) (ls : Array Slot), lv_has ls 4 [(0, .ref (g 0)), (1, .long (x1)), (3, .int (x3))] → K6 x1 x3 = some res → W p l e ({ frames := 1, cells := 0, slots := 0, locals := 25 }) s m args below meth c s.heap [] 0 0 Q (F0 m 6 ls [])) (hK31 : ∀ (x1 : Int64) (ls : Array Slot), lv_has ls 4 [(0, .ref (g 0)), (1, .long (x1))] → K31 x1 = some res → W p l e ({ frames := 1, cells := 0, slots := 0, locals := 25 }) s m args below meth c s.heap [] 0 0 Q (F0 m 31 ls [])) (ls : Array Slot) (hl : lv_has ls 4 [(0, .ref (g 0)), (1, .long (x1)), (3, .int (x3))]) (hf : f_X7_digest_6 x1 x3 B N P X K K6 K31 = some res) : W p l e ({ frames := 1, cells := 0, slots := 0, locals := 25 }) s m args below meth c s.heap [] 0 0 Q (F0 m 6 ls []) := by
  obtain ⟨hx, hb, hml, hown, hts⟩ := id C
  obtain ⟨hK, hN⟩ := id G
  unfold f_X7_digest_6 at hf
  refine lv_iload_n hx hb dX7_digest_6 rfl (lv_at hl 2 rfl) ?_
  refine lv_bipush (v := 8) hx hb dX7_digest_7 (by decide) ?_
  refine lv_icmp_gt (tgt := 31) hx hb dX7_digest_9 (by decide) (fun c1 => ?_) (fun c1 => ?_)
  · replace hf := it_t c1 hf
    exact hK31 x1 _ (lv_sub hl [0, 1] rfl) hf
  · replace hf := it_f c1 hf
    refine lv_ldc2 (v := 31) hx hb hown (hts (.constantLong RX7 298 (31)) (by decide +kernel)) dX7_digest_12 ?_
    refine lv_lload_n hx hb dX7_digest_15 rfl (lv_at hl 1 rfl) ?_
    refine lv_lmul hx hb dX7_digest_16 ?_
    refine lv_aload_n hx hb dX7_digest_17 rfl (lv_at hl 0 rfl) ?_
    refine lv_iload_n hx hb dX7_digest_18 rfl (lv_at hl 2 rfl) ?_
    obtain ⟨r19, hr19, hf⟩ := bn_e hf
    have hPc := hP.sub (ws' := (wB g B ++ wT cs (fun i => g (1 + i)) N ++ wP cs (fun i => g (12 + i)) P ++ wX cs (fun i => g (42 + i)) X)) [0, 1, 2, 3, 4, 5, 6, 7, 8, 9, 10, 11, 12, 13, 14, 15] rfl
    refine vp_callSi (W.runV (As := [.int (x3)]) (rest := [.long (((31 : Int64) * x1))]) C (c_X7_countOf l dC dI cs g B N P X x3 r19 hr19) (cwV 1 hts gX7_digest_X7_countOf rfl rfl rfl (by decide +kernel) ⟨Nat.le_of_ble_eq_true rfl, Nat.le_of_ble_eq_true rfl⟩) ⟨(fun a U g mk q => ⟨q.1, q.2.1, GE.calling q.2.2⟩), va_recv hK hPc (ci := 7) (q0 := 0) rfl rfl, (fun U hU hW => ⟨rfl, by rw [hU]; exact hPc, GE.warm hW G⟩)⟩ rfl rfl hl.1 rfl (lv_room (Nat.le_of_ble_eq_true rfl)) dX7_digest_19 ⟨Nat.le_of_ble_eq_true rfl, Nat.le_of_ble_eq_true rfl⟩) (fun qr19 hqr19 => ?_)
    obtain rfl := hqr19.symm
    refine lv_i2l hx hb dX7_digest_22 rfl ?_
    refine lv_ladd hx hb dX7_digest_23 ?_
    refine lv_topl (fun x1_24 ex1_24 => ?_)
    replace hf := lett_s ex1_24 hf
    refine lv_lstore_n (lv' := [(1, .long (x1_24)), (0, .ref (g 0)), (3, .int (x3))]) hx hb dX7_digest_24 rfl hl (by decide) rfl (fun ls hl => ?_)
    obtain ⟨x3_25, ex3_25⟩ : ∃ y : Int32, y = (x3 + 1) := ⟨_, rfl⟩
    replace hf := lett_s ex3_25 hf
    refine lv_iinc (v := x3_25) (lv' := [(3, .int (x3_25)), (1, .long (x1_24)), (0, .ref (g 0))]) hx hb dX7_digest_25 hl (k := 2) rfl (by rw [ex3_25]; rfl) (by decide) rfl (fun ls hl => ?_)
    refine lv_goto (tgt := 6) hx hb dX7_digest_28 (by decide) ?_
    exact hK6 x1_24 x3_25 _ (lv_sub hl [2, 1, 0] rfl) hf
def l_X7_digest_6 (B : Nat → Int32) (N : Tw) (P : Ps) (X : Tx) (K : Ch) (K31 : Int64 → Option Int64) (n : Nat) (x1 : Int64) (x3 : Int32) : Option Int64 := itr (fun (k : Int64 × Int32 → Option Int64) (z : Int64 × Int32) => f_X7_digest_6 z.1 z.2 B N P X K (fun x1 x3 => k (x1, x3)) K31) n (x1, x3)
set_option maxHeartbeats 4000000 in
set_option maxRecDepth 100000 in
theorem w_X7_digest_6 {p : Program} {l : Launch} {e : Env} {s : State} {m : MethodId} {args : Array Value} {below : List Frame} {meth : Method} {c : Code} {Q : State → Prop} {dC : Nat → ClassId} {dI : Nat → Nat → Nat} {cs : Nat → ClassId} {g : Nat → Nat} {res : Int64} (C : CallFix p m c cX7_digest 4 s args wsX7_digest RX7) (G : GE dC dI cs s) (hR : RPl p l e ({ frames := 1, cells := 0, slots := 0, locals := 25 }) s m args below meth c cX7_digest Q res) {B : Nat → Int32} {N : Tw} {P : Ps} {X : Tx} {K : Ch} (hP : va_P (dC, dI) vwCl (wB g B ++ wT cs (fun i => g (1 + i)) N ++ wP cs (fun i => g (12 + i)) P ++ wX cs (fun i => g (42 + i)) X ++ wC cs (fun i => g (60 + i)) K) s.heap)  (_ : Nat → Int32) (_ : Tw) (_ : Ps) (_ : Tx) (_ : Ch) {K31 : Int64 → Option Int64} (hK31 : ∀ (x1 : Int64) (ls : Array Slot), lv_has ls 4 [(0, .ref (g 0)), (1, .long (x1))] → K31 x1 = some res → W p l e ({ frames := 1, cells := 0, slots := 0, locals := 25 }) s m args below meth c s.heap [] 0 0 Q (F0 m 31 ls [])) : ∀ (n : Nat) (x1 : Int64) (x3 : Int32) (ls : Array Slot), lv_has ls 4 [(0, .ref (g 0)), (1, .long (x1)), (3, .int (x3))] → l_X7_digest_6 B N P X K K31 n x1 x3 = some res → W p l e ({ frames := 1, cells := 0, slots := 0, locals := 25 }) s m args below meth c s.heap [] 0 0 Q (F0 m 6 ls []) := by
  intro n
  induction n with
  | zero => intro x1 x3 ls hl hf; exact absurd hf (by simp [l_X7_digest_6, itr])
  | succ n ih => intro x1 x3 ls hl hf; exact b_X7_digest_6 C G hR hP x1 x3 B N P X K (K6 := fun x1 x3 => l_X7_digest_6 B N P X K K31 n x1 x3) (fun x1 x3 ls hl hf => ih x1 x3 ls hl hf) hK31 ls hl hf
def f_X7_digest_31 (x1 : Int64) (B : Nat → Int32) (N : Tw) (P : Ps) (X : Tx) (K : Ch)  : Option Int64 :=
  bn (f_X5_mixInto x1 N) fun r36 =>
  lett (((31 : Int64) * r36) + (K.1 0)) fun x1_53 =>
  some (((31 : Int64) * x1_53) + (K.1 1))
set_option maxHeartbeats 4000000 in
set_option maxRecDepth 100000 in
theorem b_X7_digest_31 {p : Program} {l : Launch} {e : Env} {s : State} {m : MethodId} {args : Array Value} {below : List Frame} {meth : Method} {c : Code} {Q : State → Prop} {dC : Nat → ClassId} {dI : Nat → Nat → Nat} {cs : Nat → ClassId} {g : Nat → Nat} {res : Int64} (C : CallFix p m c cX7_digest 4 s args wsX7_digest RX7) (G : GE dC dI cs s) (hR : RPl p l e ({ frames := 1, cells := 0, slots := 0, locals := 25 }) s m args below meth c cX7_digest Q res) {B : Nat → Int32} {N : Tw} {P : Ps} {X : Tx} {K : Ch} (hP : va_P (dC, dI) vwCl (wB g B ++ wT cs (fun i => g (1 + i)) N ++ wP cs (fun i => g (12 + i)) P ++ wX cs (fun i => g (42 + i)) X ++ wC cs (fun i => g (60 + i)) K) s.heap) (x1 : Int64) (_ : Nat → Int32) (_ : Tw) (_ : Ps) (_ : Tx) (_ : Ch)   (ls : Array Slot) (hl : lv_has ls 4 [(0, .ref (g 0)), (1, .long (x1))]) (hf : f_X7_digest_31 x1 B N P X K = some res) : W p l e ({ frames := 1, cells := 0, slots := 0, locals := 25 }) s m args below meth c s.heap [] 0 0 Q (F0 m 31 ls []) := by
  obtain ⟨hx, hb, hml, hown, hts⟩ := id C
  obtain ⟨hK, hN⟩ := id G
  unfold f_X7_digest_31 at hf
  refine lv_aload_n hx hb dX7_digest_31 rfl (lv_at hl 0 rfl) ?_
  refine va_get (D := (dC, dI)) (ci := 7) (v := .ref (g 1)) (C := RX7) (T := TX7) (N := 11) hx hb hts in_X7_digest_X7 hown hK hP 0 rfl rfl 0 (by decide) (hts (.fieldLink RX7 10 "BackLoans" "now" "LBackLoans$Town;") (by decide +kernel)) (fun _ h9 => h9) rfl dX7_digest_32 ?_
  refine lv_lload_n hx hb dX7_digest_35 rfl (lv_at hl 1 rfl) ?_
  obtain ⟨r36, hr36, hf⟩ := bn_e hf
  have hPc := hP.sub (ws' := (wT cs (fun i => g (1 + i)) N)) [1, 2, 3, 4, 5, 6, 7, 8, 9, 10, 11] rfl
  refine vp_callSl (W.runV (As := [.long (x1)]) (rest := []) C (c_X5_mixInto l dC dI cs (fun i => g (1 + i)) N x1 r36 hr36) (cwV 1 hts gX7_digest_X5_mixInto rfl rfl rfl (by decide +kernel) ⟨Nat.le_of_ble_eq_true rfl, Nat.le_of_ble_eq_true rfl⟩) ⟨(fun a U g mk q => ⟨q.1, q.2.1, GE.calling q.2.2⟩), va_recv hK hPc (ci := 5) (q0 := 0) rfl rfl, (fun U hU hW => ⟨rfl, by rw [hU]; exact hPc, GE.warm hW G⟩)⟩ rfl rfl hl.1 rfl (lv_room (Nat.le_of_ble_eq_true rfl)) dX7_digest_36 ⟨Nat.le_of_ble_eq_true rfl, Nat.le_of_ble_eq_true rfl⟩) (fun qr36 hqr36 => ?_)
  obtain rfl := hqr36.symm
  refine lv_lstore_n (lv' := [(1, .long (r36)), (0, .ref (g 0))]) hx hb dX7_digest_39 rfl hl (by decide) rfl (fun ls hl => ?_)
  refine lv_ldc2 (v := 31) hx hb hown (hts (.constantLong RX7 298 (31)) (by decide +kernel)) dX7_digest_40 ?_
  refine lv_lload_n hx hb dX7_digest_43 rfl (lv_at hl 0 rfl) ?_
  refine lv_lmul hx hb dX7_digest_44 ?_
  refine lv_aload_n hx hb dX7_digest_45 rfl (lv_at hl 1 rfl) ?_
  refine va_get (D := (dC, dI)) (ci := 7) (v := .ref (g 60)) (C := RX7) (T := TX7) (N := 11) hx hb hts in_X7_digest_X7 hown hK hP 0 rfl rfl 7 (by decide) (hts (.fieldLink RX7 57 "BackLoans" "chance" "LBackLoans$Chance;") (by decide +kernel)) (fun _ h9 => h9) rfl dX7_digest_46 ?_
  refine va_get (D := (dC, dI)) (ci := 0) (v := .long ((K.1 0))) (C := RX0) (T := TX0) (N := 3) hx hb hts in_X7_digest_X0 hown hK hP 16 rfl rfl 0 (by decide) (hts (.fieldLink RX7 263 "BackLoans$Chance" "above" "J") (by decide +kernel)) (fun _ h9 => h9) rfl dX7_digest_49 ?_
  refine lv_ladd hx hb dX7_digest_52 ?_
  refine lv_topl (fun x1_53 ex1_53 => ?_)
  replace hf := lett_s ex1_53 hf
  refine lv_lstore_n (lv' := [(1, .long (x1_53)), (0, .ref (g 0))]) hx hb dX7_digest_53 rfl hl (by decide) rfl (fun ls hl => ?_)
  refine lv_ldc2 (v := 31) hx hb hown (hts (.constantLong RX7 298 (31)) (by decide +kernel)) dX7_digest_54 ?_
  refine lv_lload_n hx hb dX7_digest_57 rfl (lv_at hl 0 rfl) ?_
  refine lv_lmul hx hb dX7_digest_58 ?_
  refine lv_aload_n hx hb dX7_digest_59 rfl (lv_at hl 1 rfl) ?_
  refine va_get (D := (dC, dI)) (ci := 7) (v := .ref (g 60)) (C := RX7) (T := TX7) (N := 11) hx hb hts in_X7_digest_X7 hown hK hP 0 rfl rfl 7 (by decide) (hts (.fieldLink RX7 57 "BackLoans" "chance" "LBackLoans$Chance;") (by decide +kernel)) (fun _ h9 => h9) rfl dX7_digest_60 ?_
  refine va_get (D := (dC, dI)) (ci := 0) (v := .long ((K.1 1))) (C := RX0) (T := TX0) (N := 3) hx hb hts in_X7_digest_X0 hown hK hP 16 rfl rfl 1 (by decide) (hts (.fieldLink RX7 267 "BackLoans$Chance" "below" "J") (by decide +kernel)) (fun _ h9 => h9) rfl dX7_digest_63 ?_
  refine lv_ladd hx hb dX7_digest_66 ?_
  exact hR _ _ _ dX7_digest_67 hf
def f_X7_digest  (B : Nat → Int32) (N : Tw) (P : Ps) (X : Tx) (K : Ch) : Option Int64 :=
  lett (839 : Int64) fun x1_3 =>
  lett (0 : Int32) fun x3_5 =>
  l_X7_digest_6 B N P X K (fun x1 => f_X7_digest_31 x1 B N P X K) FU x1_3 x3_5
set_option maxHeartbeats 4000000 in
set_option maxRecDepth 100000 in
theorem c_X7_digest (l : Launch) (dC : Nat → ClassId) (dI : Nat → Nat → Nat) (cs : Nat → ClassId) (g : Nat → Nat) (B : Nat → Int32) (N : Tw) (P : Ps) (X : Tx) (K : Ch)  (res : Int64) (hf : f_X7_digest B N P X K = some res) : Met l yX7_digest wsX7_digest ({ frames := 1, cells := 0, slots := 0, locals := 25 }) (va_Pc [.ref (g 0)] (fun U => va_P (dC, dI) vwCl (wB g B ++ wT cs (fun i => g (1 + i)) N ++ wP cs (fun i => g (12 + i)) P ++ wX cs (fun i => g (42 + i)) X ++ wC cs (fun i => g (60 + i)) K) U.heap ∧ GE dC dI cs U)) (vp_Sl (fun r => r = res)) 0 0 (fun _ => False) := by
  refine Met.ofW (cc := cX7_digest) (maxL := 4) (ret := (some .long)) (by decide) rfl ?_
  intro p e s m args below meth c s₁ Bd hml hv
  obtain ⟨rfl, hP, G⟩ := hv
  have hts := atoms_spec (ws := wsX7_digest) Bd.pre
  have hown : s.vm.findClass RX7 = some m.cls := findClass_of_methodNamed Bd.named
  have hlocks := Bd.notSynchronized
  have hx := Bd.exec
  have hb := Bd.bytes
  have hr := Bd.returns
  have C : CallFix p m c cX7_digest 4 s _ wsX7_digest RX7 := ⟨hx, hb, hml, hown, hts⟩
  obtain ⟨hK, hN⟩ := id G
  have hR : RPl p l e ({ frames := 1, cells := 0, slots := 0, locals := 25 }) s m ([.ref (g 0)] : List Value).toArray below meth c cX7_digest (MQ below (vp_Sl (fun r => r = res)) ([.ref (g 0)] : List Value).toArray s 0 0 (fun _ => False)) res := fun pc ls r dd h => W.lret hx hb hr (fun t ht hW => ⟨r, rfl, Option.some.inj h, ht⟩) (fun q hq => by cases hq) dd
  have hl := lv_entry ([.ref (g 0)]) (n := 4) (Nat.le_of_ble_eq_true rfl)
  rw [lg_entry_eq]
  generalize (lg_sl ([.ref (g 0)]) ++ List.replicate (4 - (lg_sl ([.ref (g 0)])).length) Slot.unset).toArray = ls at hl ⊢
  have hl : lv_has ls 4 [(0, .ref (g 0))] := hl
  unfold f_X7_digest at hf
  refine lv_ldc2 (v := 839) hx hb hown (hts (.constantLong RX7 296 (839)) (by decide +kernel)) dX7_digest_0 ?_
  refine lv_topl (fun x1_3 ex1_3 => ?_)
  replace hf := lett_s ex1_3 hf
  refine lv_lstore_n (lv' := [(1, .long (x1_3)), (0, .ref (g 0))]) hx hb dX7_digest_3 rfl hl (by decide) rfl (fun ls hl => ?_)
  refine lv_iconst (v := 0) hx hb dX7_digest_4 (by decide) ?_
  refine lv_topi (fun x3_5 ex3_5 => ?_)
  replace hf := lett_s ex3_5 hf
  refine lv_istore_n (lv' := [(3, .int (x3_5)), (1, .long (x1_3)), (0, .ref (g 0))]) hx hb dX7_digest_5 rfl hl (by decide) rfl (fun ls hl => ?_)
  exact w_X7_digest_6 C G hR hP B N P X K (fun x1 ls hl hf => b_X7_digest_31 C G hR hP x1 B N P X K _ hl hf) FU x1_3 x3_5 _ (lv_sub hl [2, 1, 0] rfl) hf

