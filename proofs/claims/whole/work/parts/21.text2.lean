theorem in_X4_isWord_X4 : ∀ w ∈ wsX40, w ∈ wsX4_isWord := by decide +kernel
def f_X4_isWord_28 (i : Nat) (x2 : Int32) (X : Tx) (K28 : Int32 → Option Int32) : Option Int32 :=
  if (nI (lenJ.getD i 0)) ≤ x2 then (
    some (1 : Int32)
  ) else (
    gi (((X.1 2) + x2)) 150 <|
    gi (x2) (lenJ.getD i 0) <|
    if (X.2 (((X.1 2) + x2)).toNatClampNeg) = (chJ i (x2).toNatClampNeg) then (
      lett (x2 + 1) fun x2_57 =>
      K28 x2_57
    ) else (
      some (0 : Int32)
    )
  )
set_option maxHeartbeats 4000000 in
set_option maxRecDepth 100000 in
theorem b_X4_isWord_28 {p : Program} {l : Launch} {e : Env} {s : State} {m : MethodId} {args : Array Value} {below : List Frame} {meth : Method} {c : Code} {Q : State → Prop} {dC : Nat → ClassId} {dI : Nat → Nat → Nat} {cs : Nat → ClassId} {adK : Nat → Nat} {adV : Nat → Nat} {i : Nat} (hi : i < 5) {a : Nat → Nat} {res : Int32} (C : CallFix p m c cX4_isWord 3 s args wsX4_isWord RX4) (G : GE dC dI cs s) (hE : SE adK adV nA s s.heap) (hR : RPz p l e ({ frames := 4, cells := 0, slots := 0, locals := 85 }) s m args below meth c cX4_isWord Q res) {X : Tx} (hP : va_P (dC, dI) vwCl (wX cs a X) s.heap) (x2 : Int32) (_ : Tx) {K28 : Int32 → Option Int32} (hK28 : ∀ (x2 : Int32) (ls : Array Slot), lv_has ls 3 [(0, .ref (a 0)), (1, .ref (adK i)), (2, .int (x2))] → K28 x2 = some res → W p l e ({ frames := 4, cells := 0, slots := 0, locals := 85 }) s m args below meth c s.heap [] 0 0 Q (F0 m 28 ls [])) (ls : Array Slot) (hl : lv_has ls 3 [(0, .ref (a 0)), (1, .ref (adK i)), (2, .int (x2))]) (hf : f_X4_isWord_28 i x2 X K28 = some res) : W p l e ({ frames := 4, cells := 0, slots := 0, locals := 85 }) s m args below meth c s.heap [] 0 0 Q (F0 m 28 ls []) := by
  obtain ⟨hx, hb, hml, hown, hts⟩ := id C
  obtain ⟨hK, hN⟩ := id G
  unfold f_X4_isWord_28 at hf
  refine lv_iload_n hx hb dX4_isWord_28 rfl (lv_at hl 2 rfl) ?_
  refine lv_aload_n hx hb dX4_isWord_29 rfl (lv_at hl 1 rfl) ?_
  refine vp_callSi (W.runV (As := []) (rest := [.int (x2)]) C (c_J0_length l adK adV i hi) (cwV 0 hts gX4_isWord_J0_length_8abf5 rfl rfl rfl (by decide +kernel) ⟨Nat.le_of_ble_eq_true rfl, Nat.le_of_ble_eq_true rfl⟩) ⟨fun a U g mk q => ⟨q.1, SE.calling q.2⟩, vk_recv hE.1 hi va_S.rf, fun U hU hW => ⟨rfl, by show SE adK adV nA U U.heap; rw [hU]; exact SE.warm hW hE⟩⟩ rfl rfl hl.1 rfl (lv_room (Nat.le_of_ble_eq_true rfl)) dX4_isWord_30 ⟨Nat.le_of_ble_eq_true rfl, Nat.le_of_ble_eq_true rfl⟩) (fun qq hqq => ?_)
  subst hqq
  refine lv_icmp_ge (tgt := 63) hx hb dX4_isWord_33 (by decide) (fun c1 => ?_) (fun c1 => ?_)
  · replace hf := it_t c1 hf
    refine lv_iconst (v := 1) hx hb dX4_isWord_63 (by decide) ?_
    exact hR _ _ _ dX4_isWord_64 (by decide) hf
  · replace hf := it_f c1 hf
    refine lv_aload_n hx hb dX4_isWord_36 rfl (lv_at hl 0 rfl) ?_
    refine va_get (D := (dC, dI)) (ci := 4) (v := .ref (a 1)) (C := RX4) (T := TX4) (N := 6) hx hb hts in_X4_isWord_X4 hown hK hP 0 rfl rfl 1 (by decide) (hts (.fieldLink RX4 9 "BackLoans$Text" "bytes" "[B") (by decide +kernel)) (fun _ h9 => h9) rfl dX4_isWord_37 ?_
    refine lv_aload_n hx hb dX4_isWord_40 rfl (lv_at hl 0 rfl) ?_
    refine va_get (D := (dC, dI)) (ci := 4) (v := .int ((X.1 2))) (C := RX4) (T := TX4) (N := 6) hx hb hts in_X4_isWord_X4 hown hK hP 0 rfl rfl 3 (by decide) (hts (.fieldLink RX4 46 "BackLoans$Text" "start" "I") (by decide +kernel)) (fun _ h9 => h9) rfl dX4_isWord_41 ?_
    refine lv_iload_n hx hb dX4_isWord_44 rfl (lv_at hl 2 rfl) ?_
    refine lv_iadd hx hb dX4_isWord_45 ?_
    obtain ⟨hi2, hf⟩ := gi_e hf
    refine va_bald hx hb hK hP 1 2 rfl rfl hi2 dX4_isWord_46 ?_
    refine lv_aload_n hx hb dX4_isWord_47 rfl (lv_at hl 1 rfl) ?_
    refine lv_iload_n hx hb dX4_isWord_48 rfl (lv_at hl 2 rfl) ?_
    obtain ⟨hi3, hf⟩ := gi_e hf
    refine vp_callSi (W.runV (As := [.int (x2)]) (rest := [.int ((X.2 (((X.1 2) + x2)).toNatClampNeg))]) C (c_J0_charAt l adK adV i hi (x2) hi3) (cwV 1 hts gX4_isWord_J0_charAt_5068e rfl rfl rfl (by decide +kernel) ⟨Nat.le_of_ble_eq_true rfl, Nat.le_of_ble_eq_true rfl⟩) ⟨fun a U g mk q => ⟨q.1, SE.calling q.2⟩, vk_recv hE.1 hi va_S.rf, fun U hU hW => ⟨rfl, by show SE adK adV nA U U.heap; rw [hU]; exact SE.warm hW hE⟩⟩ rfl rfl hl.1 rfl (lv_room (Nat.le_of_ble_eq_true rfl)) dX4_isWord_49 ⟨Nat.le_of_ble_eq_true rfl, Nat.le_of_ble_eq_true rfl⟩) (fun qq hqq => ?_)
    subst hqq
    refine lv_icmp_eq (tgt := 57) hx hb dX4_isWord_52 (by decide) (fun c4 => ?_) (fun c4 => ?_)
    · replace hf := it_t c4 hf
      obtain ⟨x2_57, ex2_57⟩ : ∃ y : Int32, y = (x2 + 1) := ⟨_, rfl⟩
      replace hf := lett_s ex2_57 hf
      refine lv_iinc (v := x2_57) (lv' := [(2, .int (x2_57)), (0, .ref (a 0)), (1, .ref (adK i))]) hx hb dX4_isWord_57 hl (k := 2) rfl (by rw [ex2_57]; rfl) (by decide) rfl (fun ls hl => ?_)
      refine lv_goto (tgt := 28) hx hb dX4_isWord_60 (by decide) ?_
      exact hK28 x2_57 _ (lv_sub hl [1, 2, 0] rfl) hf
    · replace hf := it_f c4 hf
      refine lv_iconst (v := 0) hx hb dX4_isWord_55 (by decide) ?_
      exact hR _ _ _ dX4_isWord_56 (by decide) hf
def l_X4_isWord_28 (i : Nat) (X : Tx)  (n : Nat) (x2 : Int32) : Option Int32 := itr (fun (k : Int32 → Option Int32) (z : Int32) => f_X4_isWord_28 i z X (fun x2 => k x2)) n x2
set_option maxHeartbeats 4000000 in
set_option maxRecDepth 100000 in
theorem w_X4_isWord_28 {p : Program} {l : Launch} {e : Env} {s : State} {m : MethodId} {args : Array Value} {below : List Frame} {meth : Method} {c : Code} {Q : State → Prop} {dC : Nat → ClassId} {dI : Nat → Nat → Nat} {cs : Nat → ClassId} {adK : Nat → Nat} {adV : Nat → Nat} {i : Nat} (hi : i < 5) {a : Nat → Nat} {res : Int32} (C : CallFix p m c cX4_isWord 3 s args wsX4_isWord RX4) (G : GE dC dI cs s) (hE : SE adK adV nA s s.heap) (hR : RPz p l e ({ frames := 4, cells := 0, slots := 0, locals := 85 }) s m args below meth c cX4_isWord Q res) {X : Tx} (hP : va_P (dC, dI) vwCl (wX cs a X) s.heap)  (_ : Tx)   : ∀ (n : Nat) (x2 : Int32) (ls : Array Slot), lv_has ls 3 [(0, .ref (a 0)), (1, .ref (adK i)), (2, .int (x2))] → l_X4_isWord_28 i X n x2 = some res → W p l e ({ frames := 4, cells := 0, slots := 0, locals := 85 }) s m args below meth c s.heap [] 0 0 Q (F0 m 28 ls []) := by
  intro n
  induction n with
  | zero => intro x2 ls hl hf; exact absurd hf (by simp [l_X4_isWord_28, itr])
  | succ n ih =>
    intro x2 ls hl hf
    replace hf : f_X4_isWord_28 i x2 X (fun x2 => l_X4_isWord_28 i X n x2) = some res := by rw [← hf]; unfold l_X4_isWord_28; rw [itr_s]
    exact b_X4_isWord_28 hi C G hE hR hP x2 X (K28 := fun x2 => l_X4_isWord_28 i X n x2) (fun x2 ls hl hf => ih x2 ls hl hf) ls hl hf
def f_X4_isWord (i : Nat)  (X : Tx) : Option Int32 :=
  if (X.1 1) = (1 : Int32) then (
    if ((X.1 3) - (X.1 2)) = (nI (lenJ.getD i 0)) then (
      lett (0 : Int32) fun x2_27 =>
      l_X4_isWord_28 i X FU x2_27
    ) else (
      some (0 : Int32)
    )
  ) else (
    some (0 : Int32)
  )
set_option maxHeartbeats 4000000 in
set_option maxRecDepth 100000 in
theorem c_X4_isWord (l : Launch) (dC : Nat → ClassId) (dI : Nat → Nat → Nat) (cs : Nat → ClassId) (adK : Nat → Nat) (adV : Nat → Nat) (i : Nat) (hi : i < 5) (a : Nat → Nat) (X : Tx)  (res : Int32) (hf : f_X4_isWord i X = some res) : Met l yX4_isWord wsX4_isWord ({ frames := 4, cells := 0, slots := 0, locals := 85 }) (va_Pc [.ref (a 0), .ref (adK i)] (fun U => va_P (dC, dI) vwCl (wX cs a X) U.heap ∧ GE dC dI cs U ∧ SE adK adV nA U U.heap)) (vp_Si (fun r => r = res ∧ narrow .boolean (.int r) = .int r)) 0 0 (fun _ => False) := by
  refine Met.ofW (cc := cX4_isWord) (maxL := 3) (ret := (some .boolean)) (by decide) rfl ?_
  intro p e s m args below meth c s₁ Bd hml hv
  obtain ⟨rfl, hP, G, hE⟩ := hv
  have hts := atoms_spec (ws := wsX4_isWord) Bd.pre
  have hown : s.vm.findClass RX4 = some m.cls := findClass_of_methodNamed Bd.named
  have hlocks := Bd.notSynchronized
  have hx := Bd.exec
  have hb := Bd.bytes
  have hr := Bd.returns
  have C : CallFix p m c cX4_isWord 3 s _ wsX4_isWord RX4 := ⟨hx, hb, hml, hown, hts⟩
  obtain ⟨hK, hN⟩ := id G
  have hR : RPz p l e ({ frames := 4, cells := 0, slots := 0, locals := 85 }) s m ([.ref (a 0), .ref (adK i)] : List Value).toArray below meth c cX4_isWord (MQ below (vp_Si (fun r => r = res ∧ narrow .boolean (.int r) = .int r)) ([.ref (a 0), .ref (adK i)] : List Value).toArray s 0 0 (fun _ => False)) res := fun pc ls r dd hn h => W.zret hx hb hr hn (fun t ht hW => ⟨r, rfl, ⟨Option.some.inj h, hn⟩, ht⟩) (fun q hq => by cases hq) dd
  have hl := lv_entry ([.ref (a 0), .ref (adK i)]) (n := 3) (Nat.le_of_ble_eq_true rfl)
  rw [lg_entry_eq]
  generalize (lg_sl ([.ref (a 0), .ref (adK i)]) ++ List.replicate (3 - (lg_sl ([.ref (a 0), .ref (adK i)])).length) Slot.unset).toArray = ls at hl ⊢
  have hl : lv_has ls 3 [(0, .ref (a 0)), (1, .ref (adK i))] := hl
  unfold f_X4_isWord at hf
  refine lv_aload_n hx hb dX4_isWord_0 rfl (lv_at hl 0 rfl) ?_
  refine va_get (D := (dC, dI)) (ci := 4) (v := .int ((X.1 1))) (C := RX4) (T := TX4) (N := 6) hx hb hts in_X4_isWord_X4 hown hK hP 0 rfl rfl 2 (by decide) (hts (.fieldLink RX4 30 "BackLoans$Text" "token" "I") (by decide +kernel)) (fun _ h9 => h9) rfl dX4_isWord_1 ?_
  refine lv_iconst (v := 1) hx hb dX4_isWord_4 (by decide) ?_
  refine lv_icmp_ne (tgt := 24) hx hb dX4_isWord_5 (by decide) (fun c1 => ?_) (fun c1 => ?_)
  · replace hf := it_f c1 hf
    refine lv_iconst (v := 0) hx hb dX4_isWord_24 (by decide) ?_
    exact hR _ _ _ dX4_isWord_25 (by decide) hf
  · replace hf := it_t c1 hf
    refine lv_aload_n hx hb dX4_isWord_8 rfl (lv_at hl 0 rfl) ?_
    refine va_get (D := (dC, dI)) (ci := 4) (v := .int ((X.1 3))) (C := RX4) (T := TX4) (N := 6) hx hb hts in_X4_isWord_X4 hown hK hP 0 rfl rfl 4 (by decide) (hts (.fieldLink RX4 19 "BackLoans$Text" "behind" "I") (by decide +kernel)) (fun _ h9 => h9) rfl dX4_isWord_9 ?_
    refine lv_aload_n hx hb dX4_isWord_12 rfl (lv_at hl 0 rfl) ?_
    refine va_get (D := (dC, dI)) (ci := 4) (v := .int ((X.1 2))) (C := RX4) (T := TX4) (N := 6) hx hb hts in_X4_isWord_X4 hown hK hP 0 rfl rfl 3 (by decide) (hts (.fieldLink RX4 46 "BackLoans$Text" "start" "I") (by decide +kernel)) (fun _ h9 => h9) rfl dX4_isWord_13 ?_
    refine lv_isub hx hb dX4_isWord_16 ?_
    refine lv_aload_n hx hb dX4_isWord_17 rfl (lv_at hl 1 rfl) ?_
    refine vp_callSi (W.runV (As := []) (rest := [.int (((X.1 3) - (X.1 2)))]) C (c_J0_length l adK adV i hi) (cwV 0 hts gX4_isWord_J0_length_8abf5 rfl rfl rfl (by decide +kernel) ⟨Nat.le_of_ble_eq_true rfl, Nat.le_of_ble_eq_true rfl⟩) ⟨fun a U g mk q => ⟨q.1, SE.calling q.2⟩, vk_recv hE.1 hi va_S.rf, fun U hU hW => ⟨rfl, by show SE adK adV nA U U.heap; rw [hU]; exact SE.warm hW hE⟩⟩ rfl rfl hl.1 rfl (lv_room (Nat.le_of_ble_eq_true rfl)) dX4_isWord_18 ⟨Nat.le_of_ble_eq_true rfl, Nat.le_of_ble_eq_true rfl⟩) (fun qq hqq => ?_)
    subst hqq
    refine lv_icmp_eq (tgt := 26) hx hb dX4_isWord_21 (by decide) (fun c2 => ?_) (fun c2 => ?_)
    · replace hf := it_t c2 hf
      refine lv_iconst (v := 0) hx hb dX4_isWord_26 (by decide) ?_
      refine lv_topi (fun x2_27 ex2_27 => ?_)
      replace hf := lett_s ex2_27 hf
      refine lv_istore_n (lv' := [(2, .int (x2_27)), (0, .ref (a 0)), (1, .ref (adK i))]) hx hb dX4_isWord_27 rfl hl (by decide) rfl (fun ls hl => ?_)
      exact w_X4_isWord_28 hi C G hE hR hP X FU x2_27 _ (lv_sub hl [1, 2, 0] rfl) hf
    · replace hf := it_f c2 hf
      refine lv_iconst (v := 0) hx hb dX4_isWord_24 (by decide) ?_
      exact hR _ _ _ dX4_isWord_25 (by decide) hf

theorem in_X4_laterItem_X5 : ∀ w ∈ wsX50, w ∈ wsX4_laterItem := by decide +kernel
def f_X4_laterItem  (X : Tx) (T : Tw) : Option (Int32 × Tx × Tw) :=
  bn (f_X4_isWord 1 X) fun r3 =>
  if r3 = 0 then (
    bn (f_X4_isWord 2 X) fun r18 =>
    if r18 = 0 then (
      bn (f_X4_isWord 3 X) fun r50 =>
      if r50 = 0 then (
        bn (f_X4_isWord 4 X) fun r82 =>
        if r82 = 0 then (
          some ((0 : Int32), (X, T))
        ) else (
          if (8 : Int32) ≤ (T.1 6) then (
            some ((0 : Int32), (X, T))
          ) else (
            bn (f_X4_offerItem X T) fun r99 =>
            if r99.1 = 0 then (
              some ((0 : Int32), (r99.2.1, r99.2.2))
            ) else (
              some ((1 : Int32), (r99.2.1, r99.2.2))
            )
          )
        )
      ) else (
        if (8 : Int32) ≤ (T.1 5) then (
          some ((0 : Int32), (X, T))
        ) else (
          bn (f_X4_loanItem X T) fun r67 =>
          if r67.1 = 0 then (
            some ((0 : Int32), (r67.2.1, r67.2.2))
          ) else (
            some ((1 : Int32), (r67.2.1, r67.2.2))
          )
        )
      )
    ) else (
      if (6 : Int32) ≤ (T.1 4) then (
        some ((0 : Int32), (X, T))
      ) else (
        bn (f_X4_personItem X T) fun r35 =>
        if r35.1 = 0 then (
          some ((0 : Int32), (r35.2.1, r35.2.2))
        ) else (
          some ((1 : Int32), (r35.2.1, r35.2.2))
        )
      )
    )
  ) else (
    bn (f_X4_rateItem X T) fun r11 =>
    some (r11.1, (r11.2.1, r11.2.2))
  )
set_option maxHeartbeats 4000000 in
set_option maxRecDepth 100000 in
theorem c_X4_laterItem (l : Launch) (dC : Nat → ClassId) (dI : Nat → Nat → Nat) (cs : Nat → ClassId) (adK : Nat → Nat) (adV : Nat → Nat) (a : Nat → Nat) (b : Nat → Nat) (sz : Nat) (X : Tx) (T : Tw)  (res : Int32 × Tx × Tw) (hf : f_X4_laterItem X T = some res) : Met l yX4_laterItem wsX4_laterItem ({ frames := 5, cells := 0, slots := 0, locals := 107 }) (va_Pc [.ref (a 0), .ref (b 0)] (fun U => U.heap.size = sz ∧ va_P (dC, dI) vwCl (wX cs a X ++ wT cs b T) U.heap ∧ GE dC dI cs U ∧ va_D (fun _ => True) (wX cs a X ++ wT cs b T) ∧ SE adK adV (va_A (wX cs a X ++ wT cs b T) sz) U U.heap)) (va_Qi (fun r (u : Tx × Tw) => r = res.1 ∧ u = res.2 ∧ narrow .boolean (.int r) = .int r) (fun u t => va_P (dC, dI) vwCl ((fun u : Tx × Tw => (wX cs a u.1 ++ wT cs b u.2)) u) t.heap ∧ va_D (va_A (wX cs a X ++ wT cs b T) sz) ((fun u : Tx × Tw => (wX cs a u.1 ++ wT cs b u.2)) u)) (va_A (wX cs a X ++ wT cs b T) sz)) 0 0 (va_A (wX cs a X ++ wT cs b T) sz) := by
  refine Met.ofW (cc := cX4_laterItem) (maxL := 2) (ret := (some .boolean)) (by decide) rfl ?_
  intro p e s m args below meth c s₁ Bd hml hv
  obtain ⟨rfl, hsz, hP, G, hD0, hE⟩ := hv
  have hts := atoms_spec (ws := wsX4_laterItem) Bd.pre
  have hown : s.vm.findClass RX4 = some m.cls := findClass_of_methodNamed Bd.named
  have hlocks := Bd.notSynchronized
  have hx := Bd.exec
  have hb := Bd.bytes
  have hr := Bd.returns
  have C : CallFix p m c cX4_laterItem 2 s _ wsX4_laterItem RX4 := ⟨hx, hb, hml, hown, hts⟩
  obtain ⟨hK, hN⟩ := id G
  subst hsz
  have hD := hD0.self (sz := s.heap.size)
  generalize hAe : va_A (wX cs a X ++ wT cs b T) s.heap.size = A at hD hE ⊢
  have hA : ∀ q : Nat, s.heap.size ≤ q → A q := fun q h => by rw [← hAe]; exact Or.inr h
  have hS : va_S A s.heap s.heap [] := va_S.rf
  have hR : RTz p l e ({ frames := 5, cells := 0, slots := 0, locals := 107 }) s m ([.ref (a 0), .ref (b 0)] : List Value).toArray below meth c cX4_laterItem (MQ below (va_Qi (fun r (u : Tx × Tw) => r = res.1 ∧ u = res.2 ∧ narrow .boolean (.int r) = .int r) (fun u t => va_P (dC, dI) vwCl ((fun u : Tx × Tw => (wX cs a u.1 ++ wT cs b u.2)) u) t.heap ∧ va_D A ((fun u : Tx × Tw => (wX cs a u.1 ++ wT cs b u.2)) u)) A) ([.ref (a 0), .ref (b 0)] : List Value).toArray s 0 0 A) (dC, dI) A (fun u : Tx × Tw => (wX cs a u.1 ++ wT cs b u.2)) res := fun H locs pc ls r u dd hn h hP hD hS => W.zret hx hb hr hn (fun t ht hW => ⟨⟨r, u, rfl, by cases h; exact ⟨rfl, rfl, hn⟩, by rw [ht]; exact hP, hD⟩, hS.F ht⟩) hS.2.2 dd
  have hl := lv_entry ([.ref (a 0), .ref (b 0)]) (n := 2) (Nat.le_of_ble_eq_true rfl)
  rw [lg_entry_eq]
  generalize (lg_sl ([.ref (a 0), .ref (b 0)]) ++ List.replicate (2 - (lg_sl ([.ref (a 0), .ref (b 0)])).length) Slot.unset).toArray = ls at hl ⊢
  have hl : lv_has ls 2 [(0, .ref (a 0)), (1, .ref (b 0))] := hl
  unfold f_X4_laterItem at hf
  refine lv_aload_n hx hb dX4_laterItem_0 rfl (lv_at hl 0 rfl) ?_
  refine va_ldcS (own := RX4) (index := 49) (tx := "rate") (q := adK 1) hx hb hown (hE.2.2.2 1 (by decide)) dX4_laterItem_1 ?_
  obtain ⟨r3, hr3, hf⟩ := bn_e hf
  have hPc := hP.sub (ws' := (wX cs a X)) [0, 1] rfl
  refine vp_callSi (W.runV (As := [.ref (adK 1)]) (rest := []) C (c_X4_isWord l dC dI cs adK adV 1 (by decide) a X r3 hr3) (cwV 1 hts gX4_laterItem_X4_isWord rfl rfl rfl (by decide +kernel) ⟨Nat.le_of_ble_eq_true rfl, Nat.le_of_ble_eq_true rfl⟩) ⟨(fun a U g mk q => ⟨q.1, q.2.1, GE.calling q.2.2.1, SE.calling q.2.2.2⟩), va_recv hK hPc (ci := 4) (q0 := 0) rfl rfl, (fun U hU hW => ⟨rfl, by rw [hU]; exact hPc, GE.warm hW G, by rw [hU]; exact SE.warm hW ((hE.kept hS.2.1).narrow (fun _ h => h.elim))⟩)⟩ rfl rfl hl.1 rfl (lv_room (Nat.le_of_ble_eq_true rfl)) dX4_laterItem_3 ⟨Nat.le_of_ble_eq_true rfl, Nat.le_of_ble_eq_true rfl⟩) (fun qr3 hqr3 => ?_)
  obtain ⟨hqr3, hnr3⟩ := hqr3
  obtain rfl := hqr3.symm
  refine lv_if_eq (tgt := 15) hx hb dX4_laterItem_6 (by decide) (fun c1 => ?_) (fun c1 => ?_)
  · replace hf := it_t c1 hf
    refine lv_aload_n hx hb dX4_laterItem_15 rfl (lv_at hl 0 rfl) ?_
    refine va_ldcS (own := RX4) (index := 54) (tx := "person") (q := adK 2) hx hb hown (hE.2.2.2 2 (by decide)) dX4_laterItem_16 ?_
    obtain ⟨r18, hr18, hf⟩ := bn_e hf
    have hPc := hP.sub (ws' := (wX cs a X)) [0, 1] rfl
    refine vp_callSi (W.runV (As := [.ref (adK 2)]) (rest := []) C (c_X4_isWord l dC dI cs adK adV 2 (by decide) a X r18 hr18) (cwV 1 hts gX4_laterItem_X4_isWord rfl rfl rfl (by decide +kernel) ⟨Nat.le_of_ble_eq_true rfl, Nat.le_of_ble_eq_true rfl⟩) ⟨(fun a U g mk q => ⟨q.1, q.2.1, GE.calling q.2.2.1, SE.calling q.2.2.2⟩), va_recv hK hPc (ci := 4) (q0 := 0) rfl rfl, (fun U hU hW => ⟨rfl, by rw [hU]; exact hPc, GE.warm hW G, by rw [hU]; exact SE.warm hW ((hE.kept hS.2.1).narrow (fun _ h => h.elim))⟩)⟩ rfl rfl hl.1 rfl (lv_room (Nat.le_of_ble_eq_true rfl)) dX4_laterItem_18 ⟨Nat.le_of_ble_eq_true rfl, Nat.le_of_ble_eq_true rfl⟩) (fun qr18 hqr18 => ?_)
    obtain ⟨hqr18, hnr18⟩ := hqr18
    obtain rfl := hqr18.symm
    refine lv_if_eq (tgt := 47) hx hb dX4_laterItem_21 (by decide) (fun c2 => ?_) (fun c2 => ?_)
    · replace hf := it_t c2 hf
      refine lv_aload_n hx hb dX4_laterItem_47 rfl (lv_at hl 0 rfl) ?_
      refine va_ldcS (own := RX4) (index := 62) (tx := "loan") (q := adK 3) hx hb hown (hE.2.2.2 3 (by decide)) dX4_laterItem_48 ?_
      obtain ⟨r50, hr50, hf⟩ := bn_e hf
      have hPc := hP.sub (ws' := (wX cs a X)) [0, 1] rfl
      refine vp_callSi (W.runV (As := [.ref (adK 3)]) (rest := []) C (c_X4_isWord l dC dI cs adK adV 3 (by decide) a X r50 hr50) (cwV 1 hts gX4_laterItem_X4_isWord rfl rfl rfl (by decide +kernel) ⟨Nat.le_of_ble_eq_true rfl, Nat.le_of_ble_eq_true rfl⟩) ⟨(fun a U g mk q => ⟨q.1, q.2.1, GE.calling q.2.2.1, SE.calling q.2.2.2⟩), va_recv hK hPc (ci := 4) (q0 := 0) rfl rfl, (fun U hU hW => ⟨rfl, by rw [hU]; exact hPc, GE.warm hW G, by rw [hU]; exact SE.warm hW ((hE.kept hS.2.1).narrow (fun _ h => h.elim))⟩)⟩ rfl rfl hl.1 rfl (lv_room (Nat.le_of_ble_eq_true rfl)) dX4_laterItem_50 ⟨Nat.le_of_ble_eq_true rfl, Nat.le_of_ble_eq_true rfl⟩) (fun qr50 hqr50 => ?_)
      obtain ⟨hqr50, hnr50⟩ := hqr50
      obtain rfl := hqr50.symm
      refine lv_if_eq (tgt := 79) hx hb dX4_laterItem_53 (by decide) (fun c3 => ?_) (fun c3 => ?_)
      · replace hf := it_t c3 hf
        refine lv_aload_n hx hb dX4_laterItem_79 rfl (lv_at hl 0 rfl) ?_
        refine va_ldcS (own := RX4) (index := 70) (tx := "offer") (q := adK 4) hx hb hown (hE.2.2.2 4 (by decide)) dX4_laterItem_80 ?_
        obtain ⟨r82, hr82, hf⟩ := bn_e hf
        have hPc := hP.sub (ws' := (wX cs a X)) [0, 1] rfl
        refine vp_callSi (W.runV (As := [.ref (adK 4)]) (rest := []) C (c_X4_isWord l dC dI cs adK adV 4 (by decide) a X r82 hr82) (cwV 1 hts gX4_laterItem_X4_isWord rfl rfl rfl (by decide +kernel) ⟨Nat.le_of_ble_eq_true rfl, Nat.le_of_ble_eq_true rfl⟩) ⟨(fun a U g mk q => ⟨q.1, q.2.1, GE.calling q.2.2.1, SE.calling q.2.2.2⟩), va_recv hK hPc (ci := 4) (q0 := 0) rfl rfl, (fun U hU hW => ⟨rfl, by rw [hU]; exact hPc, GE.warm hW G, by rw [hU]; exact SE.warm hW ((hE.kept hS.2.1).narrow (fun _ h => h.elim))⟩)⟩ rfl rfl hl.1 rfl (lv_room (Nat.le_of_ble_eq_true rfl)) dX4_laterItem_82 ⟨Nat.le_of_ble_eq_true rfl, Nat.le_of_ble_eq_true rfl⟩) (fun qr82 hqr82 => ?_)
        obtain ⟨hqr82, hnr82⟩ := hqr82
        obtain rfl := hqr82.symm
        refine lv_if_eq (tgt := 109) hx hb dX4_laterItem_85 (by decide) (fun c4 => ?_) (fun c4 => ?_)
        · replace hf := it_t c4 hf
          refine lv_iconst (v := 0) hx hb dX4_laterItem_109 (by decide) ?_
          exact hR _ _ _ _ _ _ dX4_laterItem_110 (by decide) hf hP hD hS
        · replace hf := it_f c4 hf
          refine lv_aload_n hx hb dX4_laterItem_88 rfl (lv_at hl 1 rfl) ?_
          refine va_get (D := (dC, dI)) (ci := 5) (v := .int ((T.1 6))) (C := RX5) (T := TX5) (N := 17) hx hb hts in_X4_laterItem_X5 hown hK hP 2 rfl rfl 6 (by decide) (hts (.fieldLink RX4 72 "BackLoans$Town" "offers" "I") (by decide +kernel)) (fun _ h9 => h9) rfl dX4_laterItem_89 ?_
          refine lv_bipush (v := 8) hx hb dX4_laterItem_92 (by decide) ?_
          refine lv_icmp_ge (tgt := 109) hx hb dX4_laterItem_94 (by decide) (fun c5 => ?_) (fun c5 => ?_)
          · replace hf := it_t c5 hf
            refine lv_iconst (v := 0) hx hb dX4_laterItem_109 (by decide) ?_
            exact hR _ _ _ _ _ _ dX4_laterItem_110 (by decide) hf hP hD hS
          · replace hf := it_f c5 hf
            refine lv_aload_n hx hb dX4_laterItem_97 rfl (lv_at hl 0 rfl) ?_
            refine lv_aload_n hx hb dX4_laterItem_98 rfl (lv_at hl 1 rfl) ?_
            obtain ⟨r99, hr99, hf⟩ := bn_e hf
            have hPc := hP.sub (ws' := (wX cs a X ++ wT cs b T)) [0, 1, 2, 3, 4, 5, 6, 7, 8, 9, 10, 11, 12] rfl
            have hDc := hD.sub (ws' := (wX cs a X ++ wT cs b T)) [0, 1, 2, 3, 4, 5, 6, 7, 8, 9, 10, 11, 12] (by decide) rfl
            have hFc := va_free (wc := (wX cs a X ++ wT cs b T)) hD hS hA [0, 1, 2, 3, 4, 5, 6, 7, 8, 9, 10, 11, 12] rfl
            refine va_calli (va_runV (As := [.ref (b 0)]) (rest := []) C (c_X4_offerItem l dC dI cs a b s.heap.size X T r99 hr99) (cwV 1 hts gX4_laterItem_X4_offerItem rfl rfl rfl (by decide +kernel) ⟨Nat.le_of_ble_eq_true rfl, Nat.le_of_ble_eq_true rfl⟩) ⟨(fun a U g mk q => ⟨q.1, q.2.1, q.2.2.1, GE.calling q.2.2.2.1, q.2.2.2.2⟩), va_recv hK hPc (ci := 4) (q0 := 0) rfl rfl, (fun U hU hW => ⟨rfl, by rw [hU], by rw [hU]; exact hPc, GE.warm hW G, hDc.weaken (fun _ _ _ _ => trivial)⟩)⟩ rfl rfl hl.1 rfl (lv_room (Nat.le_of_ble_eq_true rfl)) dX4_laterItem_99 ⟨Nat.le_of_ble_eq_true rfl, Nat.le_of_ble_eq_true rfl⟩) hS (fun q _ h => hFc q h) hFc (fun q u t H1 locs ht hvm hw hB hz1 hk1 hS => ?_)
            obtain ⟨rfl, rfl, hnr99⟩ := hw
            obtain ⟨hP1, hD1⟩ := hB
            rw [ht] at hP1
            obtain ⟨hP, hD⟩ := va_join (wr := []) (w1 := (wX cs a r99.2.1 ++ wT cs b r99.2.2)) hP hD [0, 1, 2, 3, 4, 5, 6, 7, 8, 9, 10, 11, 12] [] rfl rfl (by decide) (by decide) hk1 hFc hP1 hD1
            generalize H1 = H at hP hS ⊢
            have hP := hP.sub (ws' := (wX cs a r99.2.1 ++ wT cs b r99.2.2)) [0, 1, 2, 3, 4, 5, 6, 7, 8, 9, 10, 11, 12] rfl
            have hD := hD.sub (ws' := (wX cs a r99.2.1 ++ wT cs b r99.2.2)) [0, 1, 2, 3, 4, 5, 6, 7, 8, 9, 10, 11, 12] (by decide) rfl
            refine lv_if_eq (tgt := 109) hx hb dX4_laterItem_102 (by decide) (fun c6 => ?_) (fun c6 => ?_)
            · replace hf := it_t c6 hf
              refine lv_iconst (v := 0) hx hb dX4_laterItem_109 (by decide) ?_
              exact hR _ _ _ _ _ _ dX4_laterItem_110 (by decide) hf hP hD hS
            · replace hf := it_f c6 hf
              refine lv_iconst (v := 1) hx hb dX4_laterItem_105 (by decide) ?_
              refine lv_goto (tgt := 110) hx hb dX4_laterItem_106 (by decide) ?_
              exact hR _ _ _ _ _ _ dX4_laterItem_110 (by decide) hf hP hD hS
      · replace hf := it_f c3 hf
        refine lv_aload_n hx hb dX4_laterItem_56 rfl (lv_at hl 1 rfl) ?_
        refine va_get (D := (dC, dI)) (ci := 5) (v := .int ((T.1 5))) (C := RX5) (T := TX5) (N := 17) hx hb hts in_X4_laterItem_X5 hown hK hP 2 rfl rfl 5 (by decide) (hts (.fieldLink RX4 64 "BackLoans$Town" "loans" "I") (by decide +kernel)) (fun _ h9 => h9) rfl dX4_laterItem_57 ?_
        refine lv_bipush (v := 8) hx hb dX4_laterItem_60 (by decide) ?_
        refine lv_icmp_ge (tgt := 77) hx hb dX4_laterItem_62 (by decide) (fun c7 => ?_) (fun c7 => ?_)
        · replace hf := it_t c7 hf
          refine lv_iconst (v := 0) hx hb dX4_laterItem_77 (by decide) ?_
          exact hR _ _ _ _ _ _ dX4_laterItem_78 (by decide) hf hP hD hS
        · replace hf := it_f c7 hf
          refine lv_aload_n hx hb dX4_laterItem_65 rfl (lv_at hl 0 rfl) ?_
          refine lv_aload_n hx hb dX4_laterItem_66 rfl (lv_at hl 1 rfl) ?_
          obtain ⟨r67, hr67, hf⟩ := bn_e hf
          have hPc := hP.sub (ws' := (wX cs a X ++ wT cs b T)) [0, 1, 2, 3, 4, 5, 6, 7, 8, 9, 10, 11, 12] rfl
          have hDc := hD.sub (ws' := (wX cs a X ++ wT cs b T)) [0, 1, 2, 3, 4, 5, 6, 7, 8, 9, 10, 11, 12] (by decide) rfl
          have hFc := va_free (wc := (wX cs a X ++ wT cs b T)) hD hS hA [0, 1, 2, 3, 4, 5, 6, 7, 8, 9, 10, 11, 12] rfl
          refine va_calli (va_runV (As := [.ref (b 0)]) (rest := []) C (c_X4_loanItem l dC dI cs a b s.heap.size X T r67 hr67) (cwV 1 hts gX4_laterItem_X4_loanItem rfl rfl rfl (by decide +kernel) ⟨Nat.le_of_ble_eq_true rfl, Nat.le_of_ble_eq_true rfl⟩) ⟨(fun a U g mk q => ⟨q.1, q.2.1, q.2.2.1, GE.calling q.2.2.2.1, q.2.2.2.2⟩), va_recv hK hPc (ci := 4) (q0 := 0) rfl rfl, (fun U hU hW => ⟨rfl, by rw [hU], by rw [hU]; exact hPc, GE.warm hW G, hDc.weaken (fun _ _ _ _ => trivial)⟩)⟩ rfl rfl hl.1 rfl (lv_room (Nat.le_of_ble_eq_true rfl)) dX4_laterItem_67 ⟨Nat.le_of_ble_eq_true rfl, Nat.le_of_ble_eq_true rfl⟩) hS (fun q _ h => hFc q h) hFc (fun q u t H1 locs ht hvm hw hB hz1 hk1 hS => ?_)
          obtain ⟨rfl, rfl, hnr67⟩ := hw
          obtain ⟨hP1, hD1⟩ := hB
          rw [ht] at hP1
          obtain ⟨hP, hD⟩ := va_join (wr := []) (w1 := (wX cs a r67.2.1 ++ wT cs b r67.2.2)) hP hD [0, 1, 2, 3, 4, 5, 6, 7, 8, 9, 10, 11, 12] [] rfl rfl (by decide) (by decide) hk1 hFc hP1 hD1
          generalize H1 = H at hP hS ⊢
          have hP := hP.sub (ws' := (wX cs a r67.2.1 ++ wT cs b r67.2.2)) [0, 1, 2, 3, 4, 5, 6, 7, 8, 9, 10, 11, 12] rfl
          have hD := hD.sub (ws' := (wX cs a r67.2.1 ++ wT cs b r67.2.2)) [0, 1, 2, 3, 4, 5, 6, 7, 8, 9, 10, 11, 12] (by decide) rfl
          refine lv_if_eq (tgt := 77) hx hb dX4_laterItem_70 (by decide) (fun c8 => ?_) (fun c8 => ?_)
          · replace hf := it_t c8 hf
            refine lv_iconst (v := 0) hx hb dX4_laterItem_77 (by decide) ?_
            exact hR _ _ _ _ _ _ dX4_laterItem_78 (by decide) hf hP hD hS
          · replace hf := it_f c8 hf
            refine lv_iconst (v := 1) hx hb dX4_laterItem_73 (by decide) ?_
            refine lv_goto (tgt := 78) hx hb dX4_laterItem_74 (by decide) ?_
            exact hR _ _ _ _ _ _ dX4_laterItem_78 (by decide) hf hP hD hS
    · replace hf := it_f c2 hf
      refine lv_aload_n hx hb dX4_laterItem_24 rfl (lv_at hl 1 rfl) ?_
      refine va_get (D := (dC, dI)) (ci := 5) (v := .int ((T.1 4))) (C := RX5) (T := TX5) (N := 17) hx hb hts in_X4_laterItem_X5 hown hK hP 2 rfl rfl 4 (by decide) (hts (.fieldLink RX4 56 "BackLoans$Town" "people" "I") (by decide +kernel)) (fun _ h9 => h9) rfl dX4_laterItem_25 ?_
      refine lv_bipush (v := 6) hx hb dX4_laterItem_28 (by decide) ?_
      refine lv_icmp_ge (tgt := 45) hx hb dX4_laterItem_30 (by decide) (fun c9 => ?_) (fun c9 => ?_)
      · replace hf := it_t c9 hf
        refine lv_iconst (v := 0) hx hb dX4_laterItem_45 (by decide) ?_
        exact hR _ _ _ _ _ _ dX4_laterItem_46 (by decide) hf hP hD hS
      · replace hf := it_f c9 hf
        refine lv_aload_n hx hb dX4_laterItem_33 rfl (lv_at hl 0 rfl) ?_
        refine lv_aload_n hx hb dX4_laterItem_34 rfl (lv_at hl 1 rfl) ?_
        obtain ⟨r35, hr35, hf⟩ := bn_e hf
        have hPc := hP.sub (ws' := (wX cs a X ++ wT cs b T)) [0, 1, 2, 3, 4, 5, 6, 7, 8, 9, 10, 11, 12] rfl
        have hDc := hD.sub (ws' := (wX cs a X ++ wT cs b T)) [0, 1, 2, 3, 4, 5, 6, 7, 8, 9, 10, 11, 12] (by decide) rfl
        have hFc := va_free (wc := (wX cs a X ++ wT cs b T)) hD hS hA [0, 1, 2, 3, 4, 5, 6, 7, 8, 9, 10, 11, 12] rfl
        refine va_calli (va_runV (As := [.ref (b 0)]) (rest := []) C (c_X4_personItem l dC dI cs a b s.heap.size X T r35 hr35) (cwV 1 hts gX4_laterItem_X4_personItem rfl rfl rfl (by decide +kernel) ⟨Nat.le_of_ble_eq_true rfl, Nat.le_of_ble_eq_true rfl⟩) ⟨(fun a U g mk q => ⟨q.1, q.2.1, q.2.2.1, GE.calling q.2.2.2.1, q.2.2.2.2⟩), va_recv hK hPc (ci := 4) (q0 := 0) rfl rfl, (fun U hU hW => ⟨rfl, by rw [hU], by rw [hU]; exact hPc, GE.warm hW G, hDc.weaken (fun _ _ _ _ => trivial)⟩)⟩ rfl rfl hl.1 rfl (lv_room (Nat.le_of_ble_eq_true rfl)) dX4_laterItem_35 ⟨Nat.le_of_ble_eq_true rfl, Nat.le_of_ble_eq_true rfl⟩) hS (fun q _ h => hFc q h) hFc (fun q u t H1 locs ht hvm hw hB hz1 hk1 hS => ?_)
        obtain ⟨rfl, rfl, hnr35⟩ := hw
        obtain ⟨hP1, hD1⟩ := hB
        rw [ht] at hP1
        obtain ⟨hP, hD⟩ := va_join (wr := []) (w1 := (wX cs a r35.2.1 ++ wT cs b r35.2.2)) hP hD [0, 1, 2, 3, 4, 5, 6, 7, 8, 9, 10, 11, 12] [] rfl rfl (by decide) (by decide) hk1 hFc hP1 hD1
        generalize H1 = H at hP hS ⊢
        have hP := hP.sub (ws' := (wX cs a r35.2.1 ++ wT cs b r35.2.2)) [0, 1, 2, 3, 4, 5, 6, 7, 8, 9, 10, 11, 12] rfl
        have hD := hD.sub (ws' := (wX cs a r35.2.1 ++ wT cs b r35.2.2)) [0, 1, 2, 3, 4, 5, 6, 7, 8, 9, 10, 11, 12] (by decide) rfl
        refine lv_if_eq (tgt := 45) hx hb dX4_laterItem_38 (by decide) (fun c10 => ?_) (fun c10 => ?_)
        · replace hf := it_t c10 hf
          refine lv_iconst (v := 0) hx hb dX4_laterItem_45 (by decide) ?_
          exact hR _ _ _ _ _ _ dX4_laterItem_46 (by decide) hf hP hD hS
        · replace hf := it_f c10 hf
          refine lv_iconst (v := 1) hx hb dX4_laterItem_41 (by decide) ?_
          refine lv_goto (tgt := 46) hx hb dX4_laterItem_42 (by decide) ?_
          exact hR _ _ _ _ _ _ dX4_laterItem_46 (by decide) hf hP hD hS
  · replace hf := it_f c1 hf
    refine lv_aload_n hx hb dX4_laterItem_9 rfl (lv_at hl 0 rfl) ?_
    refine lv_aload_n hx hb dX4_laterItem_10 rfl (lv_at hl 1 rfl) ?_
    obtain ⟨r11, hr11, hf⟩ := bn_e hf
    have hPc := hP.sub (ws' := (wX cs a X ++ wT cs b T)) [0, 1, 2, 3, 4, 5, 6, 7, 8, 9, 10, 11, 12] rfl
    have hDc := hD.sub (ws' := (wX cs a X ++ wT cs b T)) [0, 1, 2, 3, 4, 5, 6, 7, 8, 9, 10, 11, 12] (by decide) rfl
    have hFc := va_free (wc := (wX cs a X ++ wT cs b T)) hD hS hA [0, 1, 2, 3, 4, 5, 6, 7, 8, 9, 10, 11, 12] rfl
    refine va_calli (va_runV (As := [.ref (b 0)]) (rest := []) C (c_X4_rateItem l dC dI cs a b s.heap.size X T r11 hr11) (cwV 1 hts gX4_laterItem_X4_rateItem rfl rfl rfl (by decide +kernel) ⟨Nat.le_of_ble_eq_true rfl, Nat.le_of_ble_eq_true rfl⟩) ⟨(fun a U g mk q => ⟨q.1, q.2.1, q.2.2.1, GE.calling q.2.2.2.1, q.2.2.2.2⟩), va_recv hK hPc (ci := 4) (q0 := 0) rfl rfl, (fun U hU hW => ⟨rfl, by rw [hU], by rw [hU]; exact hPc, GE.warm hW G, hDc.weaken (fun _ _ _ _ => trivial)⟩)⟩ rfl rfl hl.1 rfl (lv_room (Nat.le_of_ble_eq_true rfl)) dX4_laterItem_11 ⟨Nat.le_of_ble_eq_true rfl, Nat.le_of_ble_eq_true rfl⟩) hS (fun q _ h => hFc q h) hFc (fun q u t H1 locs ht hvm hw hB hz1 hk1 hS => ?_)
    obtain ⟨rfl, rfl, hnr11⟩ := hw
    obtain ⟨hP1, hD1⟩ := hB
    rw [ht] at hP1
    obtain ⟨hP, hD⟩ := va_join (wr := []) (w1 := (wX cs a r11.2.1 ++ wT cs b r11.2.2)) hP hD [0, 1, 2, 3, 4, 5, 6, 7, 8, 9, 10, 11, 12] [] rfl rfl (by decide) (by decide) hk1 hFc hP1 hD1
    generalize H1 = H at hP hS ⊢
    have hP := hP.sub (ws' := (wX cs a r11.2.1 ++ wT cs b r11.2.2)) [0, 1, 2, 3, 4, 5, 6, 7, 8, 9, 10, 11, 12] rfl
    have hD := hD.sub (ws' := (wX cs a r11.2.1 ++ wT cs b r11.2.2)) [0, 1, 2, 3, 4, 5, 6, 7, 8, 9, 10, 11, 12] (by decide) rfl
    exact hR _ _ _ _ _ _ dX4_laterItem_14 hnr11 hf hP hD hS

theorem in_X4_readTown_X4 : ∀ w ∈ wsX40, w ∈ wsX4_readTown := by decide +kernel
def f_X4_readTown_70 (x2 : Int32) (s0 : Int32) (X : Tx) (T : Tw) (K11 : Int32 → Tx → Tw → Option (Int32 × Tx × Tw)) (K75 : Tx → Tw → Option (Int32 × Tx × Tw)) : Option (Int32 × Tx × Tw) :=
  if s0 = 0 then (
    K75 X T
  ) else (
    lett (x2 + 1) fun x2_83 =>
    K11 x2_83 X T
  )
set_option maxHeartbeats 4000000 in
set_option maxRecDepth 100000 in
theorem b_X4_readTown_70 {p : Program} {l : Launch} {e : Env} {s : State} {m : MethodId} {args : Array Value} {below : List Frame} {meth : Method} {c : Code} {Q : State → Prop} {dC : Nat → ClassId} {dI : Nat → Nat → Nat} {cs : Nat → ClassId} {A : Nat → Prop} {adK : Nat → Nat} {adV : Nat → Nat} {a : Nat → Nat} {b : Nat → Nat} {res : Int32 × Tx × Tw} (C : CallFix p m c cX4_readTown 4 s args wsX4_readTown RX4) (G : GE dC dI cs s) (hE : SE adK adV A s s.heap) (hA : ∀ q : Nat, s.heap.size ≤ q → A q) (hR : RTi p l e ({ frames := 6, cells := 0, slots := 0, locals := 128 }) s m args below meth c cX4_readTown Q (dC, dI) A (fun u : Tx × Tw => (wX cs a u.1 ++ wT cs b u.2)) res) (x2 : Int32) (s0 : Int32) (X : Tx) (T : Tw) {K11 : Int32 → Tx → Tw → Option (Int32 × Tx × Tw)} {K75 : Tx → Tw → Option (Int32 × Tx × Tw)} (hK11 : ∀ (x2 : Int32) (X : Tx) (T : Tw) (H : Heap) (locs : List Loc) (ls : Array Slot), lv_has ls 4 [(0, .ref (a 0)), (1, .ref (b 0)), (2, .int (x2))] → va_P (dC, dI) vwCl (wX cs a X ++ wT cs b T) H → va_D A (wX cs a X ++ wT cs b T) → va_S A s.heap H locs → K11 x2 X T = some res → W p l e ({ frames := 6, cells := 0, slots := 0, locals := 128 }) s m args below meth c H locs 0 0 Q (F0 m 11 ls [])) (hK75 : ∀ (X : Tx) (T : Tw) (H : Heap) (locs : List Loc) (ls : Array Slot), lv_has ls 4 [(0, .ref (a 0))] → va_P (dC, dI) vwCl (wX cs a X ++ wT cs b T) H → va_D A (wX cs a X ++ wT cs b T) → va_S A s.heap H locs → K75 X T = some res → W p l e ({ frames := 6, cells := 0, slots := 0, locals := 128 }) s m args below meth c H locs 0 0 Q (F0 m 75 ls [])) (H : Heap) (locs : List Loc) (ls : Array Slot) (hl : lv_has ls 4 [(0, .ref (a 0)), (1, .ref (b 0)), (2, .int (x2))]) (hP : va_P (dC, dI) vwCl (wX cs a X ++ wT cs b T) H) (hD : va_D A (wX cs a X ++ wT cs b T)) (hS : va_S A s.heap H locs) (hf : f_X4_readTown_70 x2 s0 X T K11 K75 = some res) : W p l e ({ frames := 6, cells := 0, slots := 0, locals := 128 }) s m args below meth c H locs 0 0 Q (F0 m 70 ls [.int (s0)]) := by
  obtain ⟨hx, hb, hml, hown, hts⟩ := id C
  obtain ⟨hK, hN⟩ := id G
  unfold f_X4_readTown_70 at hf
  refine lv_istore_n (lv' := [(3, .int (s0)), (0, .ref (a 0)), (1, .ref (b 0)), (2, .int (x2))]) hx hb dX4_readTown_70 rfl hl (by decide) rfl (fun ls hl => ?_)
  refine lv_iload_n hx hb dX4_readTown_71 rfl (lv_at hl 0 rfl) ?_
  refine lv_if_ne (tgt := 83) hx hb dX4_readTown_72 (by decide) (fun c1 => ?_) (fun c1 => ?_)
  · replace hf := it_f c1 hf
    obtain ⟨x2_83, ex2_83⟩ : ∃ y : Int32, y = (x2 + 1) := ⟨_, rfl⟩
    replace hf := lett_s ex2_83 hf
    refine lv_iinc (v := x2_83) (lv' := [(2, .int (x2_83)), (3, .int (s0)), (0, .ref (a 0)), (1, .ref (b 0))]) hx hb dX4_readTown_83 hl (k := 3) rfl (by rw [ex2_83]; rfl) (by decide) rfl (fun ls hl => ?_)
    refine lv_goto (tgt := 11) hx hb dX4_readTown_86 (by decide) ?_
    exact hK11 x2_83 X T _ _ _ (lv_sub hl [2, 3, 0] rfl) hP hD hS hf
  · replace hf := it_t c1 hf
    exact hK75 X T _ _ _ (lv_sub hl [1] rfl) hP hD hS hf
def f_X4_readTown_61 (x2 : Int32) (X : Tx) (T : Tw) (K11 : Int32 → Tx → Tw → Option (Int32 × Tx × Tw)) (K75 : Tx → Tw → Option (Int32 × Tx × Tw)) : Option (Int32 × Tx × Tw) :=
  f_X4_readTown_70 x2 (0 : Int32) X T K11 K75
set_option maxHeartbeats 4000000 in
set_option maxRecDepth 100000 in
theorem b_X4_readTown_61 {p : Program} {l : Launch} {e : Env} {s : State} {m : MethodId} {args : Array Value} {below : List Frame} {meth : Method} {c : Code} {Q : State → Prop} {dC : Nat → ClassId} {dI : Nat → Nat → Nat} {cs : Nat → ClassId} {A : Nat → Prop} {adK : Nat → Nat} {adV : Nat → Nat} {a : Nat → Nat} {b : Nat → Nat} {res : Int32 × Tx × Tw} (C : CallFix p m c cX4_readTown 4 s args wsX4_readTown RX4) (G : GE dC dI cs s) (hE : SE adK adV A s s.heap) (hA : ∀ q : Nat, s.heap.size ≤ q → A q) (hR : RTi p l e ({ frames := 6, cells := 0, slots := 0, locals := 128 }) s m args below meth c cX4_readTown Q (dC, dI) A (fun u : Tx × Tw => (wX cs a u.1 ++ wT cs b u.2)) res) (x2 : Int32) (X : Tx) (T : Tw) {K11 : Int32 → Tx → Tw → Option (Int32 × Tx × Tw)} {K75 : Tx → Tw → Option (Int32 × Tx × Tw)} (hK11 : ∀ (x2 : Int32) (X : Tx) (T : Tw) (H : Heap) (locs : List Loc) (ls : Array Slot), lv_has ls 4 [(0, .ref (a 0)), (1, .ref (b 0)), (2, .int (x2))] → va_P (dC, dI) vwCl (wX cs a X ++ wT cs b T) H → va_D A (wX cs a X ++ wT cs b T) → va_S A s.heap H locs → K11 x2 X T = some res → W p l e ({ frames := 6, cells := 0, slots := 0, locals := 128 }) s m args below meth c H locs 0 0 Q (F0 m 11 ls [])) (hK75 : ∀ (X : Tx) (T : Tw) (H : Heap) (locs : List Loc) (ls : Array Slot), lv_has ls 4 [(0, .ref (a 0))] → va_P (dC, dI) vwCl (wX cs a X ++ wT cs b T) H → va_D A (wX cs a X ++ wT cs b T) → va_S A s.heap H locs → K75 X T = some res → W p l e ({ frames := 6, cells := 0, slots := 0, locals := 128 }) s m args below meth c H locs 0 0 Q (F0 m 75 ls [])) (H : Heap) (locs : List Loc) (ls : Array Slot) (hl : lv_has ls 4 [(0, .ref (a 0)), (1, .ref (b 0)), (2, .int (x2))]) (hP : va_P (dC, dI) vwCl (wX cs a X ++ wT cs b T) H) (hD : va_D A (wX cs a X ++ wT cs b T)) (hS : va_S A s.heap H locs) (hf : f_X4_readTown_61 x2 X T K11 K75 = some res) : W p l e ({ frames := 6, cells := 0, slots := 0, locals := 128 }) s m args below meth c H locs 0 0 Q (F0 m 61 ls []) := by
  obtain ⟨hx, hb, hml, hown, hts⟩ := id C
  obtain ⟨hK, hN⟩ := id G
  unfold f_X4_readTown_61 at hf
  refine lv_iconst (v := 0) hx hb dX4_readTown_61 (by decide) ?_
  refine lv_goto (tgt := 70) hx hb dX4_readTown_62 (by decide) ?_
  exact b_X4_readTown_70 C G hE hA hR x2 (0 : Int32) X T hK11 hK75 _ _ _ (lv_sub hl [0, 1, 2] rfl) hP hD hS hf
def f_X4_readTown_36 (x2 : Int32) (X : Tx) (T : Tw) (K11 : Int32 → Tx → Tw → Option (Int32 × Tx × Tw)) (K75 : Tx → Tw → Option (Int32 × Tx × Tw)) : Option (Int32 × Tx × Tw) :=
  if x2 = 0 then (
    bn (f_X4_isWord 0 X) fun r43 =>
    if r43 = 0 then (
      f_X4_readTown_61 x2 X T K11 K75
    ) else (
      bn (f_X4_chestItem X T) fun r51 =>
      if r51.1 = 0 then (
        f_X4_readTown_61 x2 r51.2.1 r51.2.2 K11 K75
      ) else (
        f_X4_readTown_70 x2 (1 : Int32) r51.2.1 r51.2.2 K11 K75
      )
    )
  ) else (
    bn (f_X4_laterItem X T) fun r67 =>
    f_X4_readTown_70 x2 r67.1 r67.2.1 r67.2.2 K11 K75
  )
set_option maxHeartbeats 4000000 in
set_option maxRecDepth 100000 in
theorem b_X4_readTown_36 {p : Program} {l : Launch} {e : Env} {s : State} {m : MethodId} {args : Array Value} {below : List Frame} {meth : Method} {c : Code} {Q : State → Prop} {dC : Nat → ClassId} {dI : Nat → Nat → Nat} {cs : Nat → ClassId} {A : Nat → Prop} {adK : Nat → Nat} {adV : Nat → Nat} {a : Nat → Nat} {b : Nat → Nat} {res : Int32 × Tx × Tw} (C : CallFix p m c cX4_readTown 4 s args wsX4_readTown RX4) (G : GE dC dI cs s) (hE : SE adK adV A s s.heap) (hA : ∀ q : Nat, s.heap.size ≤ q → A q) (hR : RTi p l e ({ frames := 6, cells := 0, slots := 0, locals := 128 }) s m args below meth c cX4_readTown Q (dC, dI) A (fun u : Tx × Tw => (wX cs a u.1 ++ wT cs b u.2)) res) (x2 : Int32) (X : Tx) (T : Tw) {K11 : Int32 → Tx → Tw → Option (Int32 × Tx × Tw)} {K75 : Tx → Tw → Option (Int32 × Tx × Tw)} (hK11 : ∀ (x2 : Int32) (X : Tx) (T : Tw) (H : Heap) (locs : List Loc) (ls : Array Slot), lv_has ls 4 [(0, .ref (a 0)), (1, .ref (b 0)), (2, .int (x2))] → va_P (dC, dI) vwCl (wX cs a X ++ wT cs b T) H → va_D A (wX cs a X ++ wT cs b T) → va_S A s.heap H locs → K11 x2 X T = some res → W p l e ({ frames := 6, cells := 0, slots := 0, locals := 128 }) s m args below meth c H locs 0 0 Q (F0 m 11 ls [])) (hK75 : ∀ (X : Tx) (T : Tw) (H : Heap) (locs : List Loc) (ls : Array Slot), lv_has ls 4 [(0, .ref (a 0))] → va_P (dC, dI) vwCl (wX cs a X ++ wT cs b T) H → va_D A (wX cs a X ++ wT cs b T) → va_S A s.heap H locs → K75 X T = some res → W p l e ({ frames := 6, cells := 0, slots := 0, locals := 128 }) s m args below meth c H locs 0 0 Q (F0 m 75 ls [])) (H : Heap) (locs : List Loc) (ls : Array Slot) (hl : lv_has ls 4 [(0, .ref (a 0)), (1, .ref (b 0)), (2, .int (x2))]) (hP : va_P (dC, dI) vwCl (wX cs a X ++ wT cs b T) H) (hD : va_D A (wX cs a X ++ wT cs b T)) (hS : va_S A s.heap H locs) (hf : f_X4_readTown_36 x2 X T K11 K75 = some res) : W p l e ({ frames := 6, cells := 0, slots := 0, locals := 128 }) s m args below meth c H locs 0 0 Q (F0 m 36 ls []) := by
  obtain ⟨hx, hb, hml, hown, hts⟩ := id C
  obtain ⟨hK, hN⟩ := id G
  unfold f_X4_readTown_36 at hf
  refine lv_iload_n hx hb dX4_readTown_36 rfl (lv_at hl 2 rfl) ?_
  refine lv_if_ne (tgt := 65) hx hb dX4_readTown_37 (by decide) (fun c1 => ?_) (fun c1 => ?_)
  · replace hf := it_f c1 hf
    refine lv_aload_n hx hb dX4_readTown_65 rfl (lv_at hl 0 rfl) ?_
    refine lv_aload_n hx hb dX4_readTown_66 rfl (lv_at hl 1 rfl) ?_
    obtain ⟨r67, hr67, hf⟩ := bn_e hf
    have hPc := hP.sub (ws' := (wX cs a X ++ wT cs b T)) [0, 1, 2, 3, 4, 5, 6, 7, 8, 9, 10, 11, 12] rfl
    have hDc := hD.sub (ws' := (wX cs a X ++ wT cs b T)) [0, 1, 2, 3, 4, 5, 6, 7, 8, 9, 10, 11, 12] (by decide) rfl
    have hFc := va_free (wc := (wX cs a X ++ wT cs b T)) hD hS hA [0, 1, 2, 3, 4, 5, 6, 7, 8, 9, 10, 11, 12] rfl
    refine va_calli (va_runV (As := [.ref (b 0)]) (rest := []) C (c_X4_laterItem l dC dI cs adK adV a b H.size X T r67 hr67) (cwV 1 hts gX4_readTown_X4_laterItem rfl rfl rfl (by decide +kernel) ⟨Nat.le_of_ble_eq_true rfl, Nat.le_of_ble_eq_true rfl⟩) ⟨(fun a U g mk q => ⟨q.1, q.2.1, q.2.2.1, GE.calling q.2.2.2.1, q.2.2.2.2.1, SE.calling q.2.2.2.2.2⟩), va_recv hK hPc (ci := 4) (q0 := 0) rfl rfl, (fun U hU hW => ⟨rfl, by rw [hU], by rw [hU]; exact hPc, GE.warm hW G, hDc.weaken (fun _ _ _ _ => trivial), by rw [hU]; exact SE.warm hW ((hE.kept hS.2.1).narrow hFc)⟩)⟩ rfl rfl hl.1 rfl (lv_room (Nat.le_of_ble_eq_true rfl)) dX4_readTown_67 ⟨Nat.le_of_ble_eq_true rfl, Nat.le_of_ble_eq_true rfl⟩) hS (fun q _ h => hFc q h) hFc (fun q u t H1 locs ht hvm hw hB hz1 hk1 hS => ?_)
    obtain ⟨rfl, rfl, hnr67⟩ := hw
    obtain ⟨hP1, hD1⟩ := hB
    rw [ht] at hP1
    obtain ⟨hP, hD⟩ := va_join (wr := []) (w1 := (wX cs a r67.2.1 ++ wT cs b r67.2.2)) hP hD [0, 1, 2, 3, 4, 5, 6, 7, 8, 9, 10, 11, 12] [] rfl rfl (by decide) (by decide) hk1 hFc hP1 hD1
    generalize H1 = H at hP hS ⊢
    have hP := hP.sub (ws' := (wX cs a r67.2.1 ++ wT cs b r67.2.2)) [0, 1, 2, 3, 4, 5, 6, 7, 8, 9, 10, 11, 12] rfl
    have hD := hD.sub (ws' := (wX cs a r67.2.1 ++ wT cs b r67.2.2)) [0, 1, 2, 3, 4, 5, 6, 7, 8, 9, 10, 11, 12] (by decide) rfl
    exact b_X4_readTown_70 C G hE hA hR x2 r67.1 r67.2.1 r67.2.2 hK11 hK75 _ _ _ (lv_sub hl [0, 1, 2] rfl) hP hD hS hf
  · replace hf := it_t c1 hf
    refine lv_aload_n hx hb dX4_readTown_40 rfl (lv_at hl 0 rfl) ?_
    refine va_ldcS (own := RX4) (index := 33) (tx := "chest") (q := adK 0) hx hb hown (hE.2.2.2 0 (by decide)) dX4_readTown_41 ?_
    obtain ⟨r43, hr43, hf⟩ := bn_e hf
    have hPc := hP.sub (ws' := (wX cs a X)) [0, 1] rfl
    refine vp_callSi (W.runV (As := [.ref (adK 0)]) (rest := []) C (c_X4_isWord l dC dI cs adK adV 0 (by decide) a X r43 hr43) (cwV 1 hts gX4_readTown_X4_isWord rfl rfl rfl (by decide +kernel) ⟨Nat.le_of_ble_eq_true rfl, Nat.le_of_ble_eq_true rfl⟩) ⟨(fun a U g mk q => ⟨q.1, q.2.1, GE.calling q.2.2.1, SE.calling q.2.2.2⟩), va_recv hK hPc (ci := 4) (q0 := 0) rfl rfl, (fun U hU hW => ⟨rfl, by rw [hU]; exact hPc, GE.warm hW G, by rw [hU]; exact SE.warm hW ((hE.kept hS.2.1).narrow (fun _ h => h.elim))⟩)⟩ rfl rfl hl.1 rfl (lv_room (Nat.le_of_ble_eq_true rfl)) dX4_readTown_43 ⟨Nat.le_of_ble_eq_true rfl, Nat.le_of_ble_eq_true rfl⟩) (fun qr43 hqr43 => ?_)
    obtain ⟨hqr43, hnr43⟩ := hqr43
    obtain rfl := hqr43.symm
    refine lv_if_eq (tgt := 61) hx hb dX4_readTown_46 (by decide) (fun c2 => ?_) (fun c2 => ?_)
    · replace hf := it_t c2 hf
      exact b_X4_readTown_61 C G hE hA hR x2 X T hK11 hK75 _ _ _ (lv_sub hl [0, 1, 2] rfl) hP hD hS hf
    · replace hf := it_f c2 hf
      refine lv_aload_n hx hb dX4_readTown_49 rfl (lv_at hl 0 rfl) ?_
      refine lv_aload_n hx hb dX4_readTown_50 rfl (lv_at hl 1 rfl) ?_
      obtain ⟨r51, hr51, hf⟩ := bn_e hf
      have hPc := hP.sub (ws' := (wX cs a X ++ wT cs b T)) [0, 1, 2, 3, 4, 5, 6, 7, 8, 9, 10, 11, 12] rfl
      have hDc := hD.sub (ws' := (wX cs a X ++ wT cs b T)) [0, 1, 2, 3, 4, 5, 6, 7, 8, 9, 10, 11, 12] (by decide) rfl
      have hFc := va_free (wc := (wX cs a X ++ wT cs b T)) hD hS hA [0, 1, 2, 3, 4, 5, 6, 7, 8, 9, 10, 11, 12] rfl
      refine va_calli (va_runV (As := [.ref (b 0)]) (rest := []) C (c_X4_chestItem l dC dI cs a b H.size X T r51 hr51) (cwV 1 hts gX4_readTown_X4_chestItem rfl rfl rfl (by decide +kernel) ⟨Nat.le_of_ble_eq_true rfl, Nat.le_of_ble_eq_true rfl⟩) ⟨(fun a U g mk q => ⟨q.1, q.2.1, q.2.2.1, GE.calling q.2.2.2.1, q.2.2.2.2⟩), va_recv hK hPc (ci := 4) (q0 := 0) rfl rfl, (fun U hU hW => ⟨rfl, by rw [hU], by rw [hU]; exact hPc, GE.warm hW G, hDc.weaken (fun _ _ _ _ => trivial)⟩)⟩ rfl rfl hl.1 rfl (lv_room (Nat.le_of_ble_eq_true rfl)) dX4_readTown_51 ⟨Nat.le_of_ble_eq_true rfl, Nat.le_of_ble_eq_true rfl⟩) hS (fun q _ h => hFc q h) hFc (fun q u t H1 locs ht hvm hw hB hz1 hk1 hS => ?_)
      obtain ⟨rfl, rfl, hnr51⟩ := hw
      obtain ⟨hP1, hD1⟩ := hB
      rw [ht] at hP1
      obtain ⟨hP, hD⟩ := va_join (wr := []) (w1 := (wX cs a r51.2.1 ++ wT cs b r51.2.2)) hP hD [0, 1, 2, 3, 4, 5, 6, 7, 8, 9, 10, 11, 12] [] rfl rfl (by decide) (by decide) hk1 hFc hP1 hD1
      generalize H1 = H at hP hS ⊢
      have hP := hP.sub (ws' := (wX cs a r51.2.1 ++ wT cs b r51.2.2)) [0, 1, 2, 3, 4, 5, 6, 7, 8, 9, 10, 11, 12] rfl
      have hD := hD.sub (ws' := (wX cs a r51.2.1 ++ wT cs b r51.2.2)) [0, 1, 2, 3, 4, 5, 6, 7, 8, 9, 10, 11, 12] (by decide) rfl
      refine lv_if_eq (tgt := 61) hx hb dX4_readTown_54 (by decide) (fun c3 => ?_) (fun c3 => ?_)
      · replace hf := it_t c3 hf
        exact b_X4_readTown_61 C G hE hA hR x2 r51.2.1 r51.2.2 hK11 hK75 _ _ _ (lv_sub hl [0, 1, 2] rfl) hP hD hS hf
      · replace hf := it_f c3 hf
        refine lv_iconst (v := 1) hx hb dX4_readTown_57 (by decide) ?_
        refine lv_goto (tgt := 70) hx hb dX4_readTown_58 (by decide) ?_
        exact b_X4_readTown_70 C G hE hA hR x2 (1 : Int32) r51.2.1 r51.2.2 hK11 hK75 _ _ _ (lv_sub hl [0, 1, 2] rfl) hP hD hS hf
def f_X4_readTown_11 (x2 : Int32) (X : Tx) (T : Tw) (K11 : Int32 → Tx → Tw → Option (Int32 × Tx × Tw)) (K75 : Tx → Tw → Option (Int32 × Tx × Tw)) (K89 : Tx → Tw → Option (Int32 × Tx × Tw)) : Option (Int32 × Tx × Tw) :=
  if (X.1 0) < x2 then (
    K89 X T
  ) else (
    bn (f_X4_step X) fun r20 =>
    if (r20.1 1) = 0 then (
      if x2 ≤ 0 then (
        f_X4_readTown_36 x2 r20 T K11 K75
      ) else (
        some (x2, (r20, T))
      )
    ) else (
      f_X4_readTown_36 x2 r20 T K11 K75
    )
  )
set_option maxHeartbeats 4000000 in
set_option maxRecDepth 100000 in
theorem b_X4_readTown_11 {p : Program} {l : Launch} {e : Env} {s : State} {m : MethodId} {args : Array Value} {below : List Frame} {meth : Method} {c : Code} {Q : State → Prop} {dC : Nat → ClassId} {dI : Nat → Nat → Nat} {cs : Nat → ClassId} {A : Nat → Prop} {adK : Nat → Nat} {adV : Nat → Nat} {a : Nat → Nat} {b : Nat → Nat} {res : Int32 × Tx × Tw} (C : CallFix p m c cX4_readTown 4 s args wsX4_readTown RX4) (G : GE dC dI cs s) (hE : SE adK adV A s s.heap) (hA : ∀ q : Nat, s.heap.size ≤ q → A q) (hR : RTi p l e ({ frames := 6, cells := 0, slots := 0, locals := 128 }) s m args below meth c cX4_readTown Q (dC, dI) A (fun u : Tx × Tw => (wX cs a u.1 ++ wT cs b u.2)) res) (x2 : Int32) (X : Tx) (T : Tw) {K11 : Int32 → Tx → Tw → Option (Int32 × Tx × Tw)} {K75 : Tx → Tw → Option (Int32 × Tx × Tw)} {K89 : Tx → Tw → Option (Int32 × Tx × Tw)} (hK11 : ∀ (x2 : Int32) (X : Tx) (T : Tw) (H : Heap) (locs : List Loc) (ls : Array Slot), lv_has ls 4 [(0, .ref (a 0)), (1, .ref (b 0)), (2, .int (x2))] → va_P (dC, dI) vwCl (wX cs a X ++ wT cs b T) H → va_D A (wX cs a X ++ wT cs b T) → va_S A s.heap H locs → K11 x2 X T = some res → W p l e ({ frames := 6, cells := 0, slots := 0, locals := 128 }) s m args below meth c H locs 0 0 Q (F0 m 11 ls [])) (hK75 : ∀ (X : Tx) (T : Tw) (H : Heap) (locs : List Loc) (ls : Array Slot), lv_has ls 4 [(0, .ref (a 0))] → va_P (dC, dI) vwCl (wX cs a X ++ wT cs b T) H → va_D A (wX cs a X ++ wT cs b T) → va_S A s.heap H locs → K75 X T = some res → W p l e ({ frames := 6, cells := 0, slots := 0, locals := 128 }) s m args below meth c H locs 0 0 Q (F0 m 75 ls [])) (hK89 : ∀ (X : Tx) (T : Tw) (H : Heap) (locs : List Loc) (ls : Array Slot), lv_has ls 4 [(0, .ref (a 0))] → va_P (dC, dI) vwCl (wX cs a X ++ wT cs b T) H → va_D A (wX cs a X ++ wT cs b T) → va_S A s.heap H locs → K89 X T = some res → W p l e ({ frames := 6, cells := 0, slots := 0, locals := 128 }) s m args below meth c H locs 0 0 Q (F0 m 89 ls [])) (H : Heap) (locs : List Loc) (ls : Array Slot) (hl : lv_has ls 4 [(0, .ref (a 0)), (1, .ref (b 0)), (2, .int (x2))]) (hP : va_P (dC, dI) vwCl (wX cs a X ++ wT cs b T) H) (hD : va_D A (wX cs a X ++ wT cs b T)) (hS : va_S A s.heap H locs) (hf : f_X4_readTown_11 x2 X T K11 K75 K89 = some res) : W p l e ({ frames := 6, cells := 0, slots := 0, locals := 128 }) s m args below meth c H locs 0 0 Q (F0 m 11 ls []) := by
  obtain ⟨hx, hb, hml, hown, hts⟩ := id C
  obtain ⟨hK, hN⟩ := id G
  unfold f_X4_readTown_11 at hf
  refine lv_iload_n hx hb dX4_readTown_11 rfl (lv_at hl 2 rfl) ?_
  refine lv_aload_n hx hb dX4_readTown_12 rfl (lv_at hl 0 rfl) ?_
  refine va_get (D := (dC, dI)) (ci := 4) (v := .int ((X.1 0))) (C := RX4) (T := TX4) (N := 6) hx hb hts in_X4_readTown_X4 hown hK hP 0 rfl rfl 0 (by decide) (hts (.fieldLink RX4 15 "BackLoans$Text" "length" "I") (by decide +kernel)) (fun _ h9 => h9) rfl dX4_readTown_13 ?_
  refine lv_icmp_gt (tgt := 89) hx hb dX4_readTown_16 (by decide) (fun c1 => ?_) (fun c1 => ?_)
  · replace hf := it_t c1 hf
    exact hK89 X T _ _ _ (lv_sub hl [0] rfl) hP hD hS hf
  · replace hf := it_f c1 hf
    refine lv_aload_n hx hb dX4_readTown_19 rfl (lv_at hl 0 rfl) ?_
    obtain ⟨r20, hr20, hf⟩ := bn_e hf
    have hPc := hP.sub (ws' := (wX cs a X)) [0, 1] rfl
    have hDc := hD.sub (ws' := (wX cs a X)) [0, 1] (by decide) rfl
    have hFc := va_free (wc := (wX cs a X)) hD hS hA [0, 1] rfl
    refine va_callv (va_runV (As := []) (rest := []) C (c_X4_step l dC dI cs a H.size X r20 hr20) (cwV 0 hts gX4_readTown_X4_step rfl rfl rfl (by decide +kernel) ⟨Nat.le_of_ble_eq_true rfl, Nat.le_of_ble_eq_true rfl⟩) ⟨(fun a U g mk q => ⟨q.1, q.2.1, q.2.2.1, GE.calling q.2.2.2.1, q.2.2.2.2⟩), va_recv hK hPc (ci := 4) (q0 := 0) rfl rfl, (fun U hU hW => ⟨rfl, by rw [hU], by rw [hU]; exact hPc, GE.warm hW G, hDc.weaken (fun _ _ _ _ => trivial)⟩)⟩ rfl rfl hl.1 rfl (lv_room (Nat.le_of_ble_eq_true rfl)) dX4_readTown_20 ⟨Nat.le_of_ble_eq_true rfl, Nat.le_of_ble_eq_true rfl⟩) hS (fun q _ h => hFc q h) hFc (fun u t H1 locs ht hvm hw hB hz1 hk1 hS => ?_)
    obtain rfl := hw.symm
    obtain ⟨hP1, hD1⟩ := hB
    rw [ht] at hP1
    obtain ⟨hP, hD⟩ := va_join (wr := [2, 3, 4, 5, 6, 7, 8, 9, 10, 11, 12].filterMap (fun i => ((wX cs a X ++ wT cs b T))[i]?)) (w1 := (wX cs a r20)) hP hD [0, 1] [2, 3, 4, 5, 6, 7, 8, 9, 10, 11, 12] rfl rfl (by decide) (by decide) hk1 hFc hP1 hD1
    generalize H1 = H at hP hS ⊢
    have hP := hP.sub (ws' := (wX cs a r20 ++ wT cs b T)) [11, 12, 0, 1, 2, 3, 4, 5, 6, 7, 8, 9, 10] rfl
    have hD := hD.sub (ws' := (wX cs a r20 ++ wT cs b T)) [11, 12, 0, 1, 2, 3, 4, 5, 6, 7, 8, 9, 10] (by decide) rfl
    refine lv_aload_n hx hb dX4_readTown_23 rfl (lv_at hl 0 rfl) ?_
    refine va_get (D := (dC, dI)) (ci := 4) (v := .int ((r20.1 1))) (C := RX4) (T := TX4) (N := 6) hx hb hts in_X4_readTown_X4 hown hK hP 0 rfl rfl 2 (by decide) (hts (.fieldLink RX4 30 "BackLoans$Text" "token" "I") (by decide +kernel)) (fun _ h9 => h9) rfl dX4_readTown_24 ?_
    refine lv_if_ne (tgt := 36) hx hb dX4_readTown_27 (by decide) (fun c2 => ?_) (fun c2 => ?_)
    · replace hf := it_f c2 hf
      exact b_X4_readTown_36 C G hE hA hR x2 r20 T hK11 hK75 _ _ _ (lv_sub hl [0, 1, 2] rfl) hP hD hS hf
    · replace hf := it_t c2 hf
      refine lv_iload_n hx hb dX4_readTown_30 rfl (lv_at hl 2 rfl) ?_
      refine lv_if_le (tgt := 36) hx hb dX4_readTown_31 (by decide) (fun c3 => ?_) (fun c3 => ?_)
      · replace hf := it_t c3 hf
        exact b_X4_readTown_36 C G hE hA hR x2 r20 T hK11 hK75 _ _ _ (lv_sub hl [0, 1, 2] rfl) hP hD hS hf
      · replace hf := it_f c3 hf
        refine lv_iload_n hx hb dX4_readTown_34 rfl (lv_at hl 2 rfl) ?_
        exact hR _ _ _ _ _ _ dX4_readTown_35 hf hP hD hS
def l_X4_readTown_11  (K75 : Tx → Tw → Option (Int32 × Tx × Tw)) (K89 : Tx → Tw → Option (Int32 × Tx × Tw)) (n : Nat) (x2 : Int32) (X : Tx) (T : Tw) : Option (Int32 × Tx × Tw) := itr (fun (k : Int32 × Tx × Tw → Option (Int32 × Tx × Tw)) (z : Int32 × Tx × Tw) => f_X4_readTown_11 z.1 z.2.1 z.2.2 (fun x2 X T => k (x2, X, T)) K75 K89) n (x2, X, T)
set_option maxHeartbeats 4000000 in
set_option maxRecDepth 100000 in
theorem w_X4_readTown_11 {p : Program} {l : Launch} {e : Env} {s : State} {m : MethodId} {args : Array Value} {below : List Frame} {meth : Method} {c : Code} {Q : State → Prop} {dC : Nat → ClassId} {dI : Nat → Nat → Nat} {cs : Nat → ClassId} {A : Nat → Prop} {adK : Nat → Nat} {adV : Nat → Nat} {a : Nat → Nat} {b : Nat → Nat} {res : Int32 × Tx × Tw} (C : CallFix p m c cX4_readTown 4 s args wsX4_readTown RX4) (G : GE dC dI cs s) (hE : SE adK adV A s s.heap) (hA : ∀ q : Nat, s.heap.size ≤ q → A q) (hR : RTi p l e ({ frames := 6, cells := 0, slots := 0, locals := 128 }) s m args below meth c cX4_readTown Q (dC, dI) A (fun u : Tx × Tw => (wX cs a u.1 ++ wT cs b u.2)) res)  {K75 : Tx → Tw → Option (Int32 × Tx × Tw)} {K89 : Tx → Tw → Option (Int32 × Tx × Tw)} (hK75 : ∀ (X : Tx) (T : Tw) (H : Heap) (locs : List Loc) (ls : Array Slot), lv_has ls 4 [(0, .ref (a 0))] → va_P (dC, dI) vwCl (wX cs a X ++ wT cs b T) H → va_D A (wX cs a X ++ wT cs b T) → va_S A s.heap H locs → K75 X T = some res → W p l e ({ frames := 6, cells := 0, slots := 0, locals := 128 }) s m args below meth c H locs 0 0 Q (F0 m 75 ls [])) (hK89 : ∀ (X : Tx) (T : Tw) (H : Heap) (locs : List Loc) (ls : Array Slot), lv_has ls 4 [(0, .ref (a 0))] → va_P (dC, dI) vwCl (wX cs a X ++ wT cs b T) H → va_D A (wX cs a X ++ wT cs b T) → va_S A s.heap H locs → K89 X T = some res → W p l e ({ frames := 6, cells := 0, slots := 0, locals := 128 }) s m args below meth c H locs 0 0 Q (F0 m 89 ls [])) : ∀ (n : Nat) (x2 : Int32) (X : Tx) (T : Tw) (H : Heap) (locs : List Loc) (ls : Array Slot), lv_has ls 4 [(0, .ref (a 0)), (1, .ref (b 0)), (2, .int (x2))] → va_P (dC, dI) vwCl (wX cs a X ++ wT cs b T) H → va_D A (wX cs a X ++ wT cs b T) → va_S A s.heap H locs → l_X4_readTown_11 K75 K89 n x2 X T = some res → W p l e ({ frames := 6, cells := 0, slots := 0, locals := 128 }) s m args below meth c H locs 0 0 Q (F0 m 11 ls []) := by
  intro n
  induction n with
  | zero => intro x2 X T H locs ls hl hP hD hS hf; exact absurd hf (by simp [l_X4_readTown_11, itr])
  | succ n ih =>
    intro x2 X T H locs ls hl hP hD hS hf
    replace hf : f_X4_readTown_11 x2 X T (fun x2 X T => l_X4_readTown_11 K75 K89 n x2 X T) K75 K89 = some res := by rw [← hf]; unfold l_X4_readTown_11; rw [itr_s]
    exact b_X4_readTown_11 C G hE hA hR x2 X T (K11 := fun x2 X T => l_X4_readTown_11 K75 K89 n x2 X T) (fun x2 X T H locs ls hl hP hD hS hf => ih x2 X T H locs ls hl hP hD hS hf) hK75 hK89 H locs ls hl hP hD hS hf
def f_X4_readTown_75 (X : Tx) (T : Tw)  : Option (Int32 × Tx × Tw) :=
  some (((-10 : Int32) - (X.1 2)), (X, T))
set_option maxHeartbeats 4000000 in
set_option maxRecDepth 100000 in
theorem b_X4_readTown_75 {p : Program} {l : Launch} {e : Env} {s : State} {m : MethodId} {args : Array Value} {below : List Frame} {meth : Method} {c : Code} {Q : State → Prop} {dC : Nat → ClassId} {dI : Nat → Nat → Nat} {cs : Nat → ClassId} {A : Nat → Prop} {adK : Nat → Nat} {adV : Nat → Nat} {a : Nat → Nat} {b : Nat → Nat} {res : Int32 × Tx × Tw} (C : CallFix p m c cX4_readTown 4 s args wsX4_readTown RX4) (G : GE dC dI cs s) (hE : SE adK adV A s s.heap) (hA : ∀ q : Nat, s.heap.size ≤ q → A q) (hR : RTi p l e ({ frames := 6, cells := 0, slots := 0, locals := 128 }) s m args below meth c cX4_readTown Q (dC, dI) A (fun u : Tx × Tw => (wX cs a u.1 ++ wT cs b u.2)) res) (X : Tx) (T : Tw)   (H : Heap) (locs : List Loc) (ls : Array Slot) (hl : lv_has ls 4 [(0, .ref (a 0))]) (hP : va_P (dC, dI) vwCl (wX cs a X ++ wT cs b T) H) (hD : va_D A (wX cs a X ++ wT cs b T)) (hS : va_S A s.heap H locs) (hf : f_X4_readTown_75 X T = some res) : W p l e ({ frames := 6, cells := 0, slots := 0, locals := 128 }) s m args below meth c H locs 0 0 Q (F0 m 75 ls []) := by
  obtain ⟨hx, hb, hml, hown, hts⟩ := id C
  obtain ⟨hK, hN⟩ := id G
  unfold f_X4_readTown_75 at hf
  refine lv_bipush (v := -10) hx hb dX4_readTown_75 (by decide) ?_
  refine lv_aload_n hx hb dX4_readTown_77 rfl (lv_at hl 0 rfl) ?_
  refine va_get (D := (dC, dI)) (ci := 4) (v := .int ((X.1 2))) (C := RX4) (T := TX4) (N := 6) hx hb hts in_X4_readTown_X4 hown hK hP 0 rfl rfl 3 (by decide) (hts (.fieldLink RX4 46 "BackLoans$Text" "start" "I") (by decide +kernel)) (fun _ h9 => h9) rfl dX4_readTown_78 ?_
  refine lv_isub hx hb dX4_readTown_81 ?_
  exact hR _ _ _ _ _ _ dX4_readTown_82 hf hP hD hS
def f_X4_readTown_89 (X : Tx) (T : Tw)  : Option (Int32 × Tx × Tw) :=
  some (((-10 : Int32) - (X.1 0)), (X, T))
set_option maxHeartbeats 4000000 in
set_option maxRecDepth 100000 in
theorem b_X4_readTown_89 {p : Program} {l : Launch} {e : Env} {s : State} {m : MethodId} {args : Array Value} {below : List Frame} {meth : Method} {c : Code} {Q : State → Prop} {dC : Nat → ClassId} {dI : Nat → Nat → Nat} {cs : Nat → ClassId} {A : Nat → Prop} {adK : Nat → Nat} {adV : Nat → Nat} {a : Nat → Nat} {b : Nat → Nat} {res : Int32 × Tx × Tw} (C : CallFix p m c cX4_readTown 4 s args wsX4_readTown RX4) (G : GE dC dI cs s) (hE : SE adK adV A s s.heap) (hA : ∀ q : Nat, s.heap.size ≤ q → A q) (hR : RTi p l e ({ frames := 6, cells := 0, slots := 0, locals := 128 }) s m args below meth c cX4_readTown Q (dC, dI) A (fun u : Tx × Tw => (wX cs a u.1 ++ wT cs b u.2)) res) (X : Tx) (T : Tw)   (H : Heap) (locs : List Loc) (ls : Array Slot) (hl : lv_has ls 4 [(0, .ref (a 0))]) (hP : va_P (dC, dI) vwCl (wX cs a X ++ wT cs b T) H) (hD : va_D A (wX cs a X ++ wT cs b T)) (hS : va_S A s.heap H locs) (hf : f_X4_readTown_89 X T = some res) : W p l e ({ frames := 6, cells := 0, slots := 0, locals := 128 }) s m args below meth c H locs 0 0 Q (F0 m 89 ls []) := by
  obtain ⟨hx, hb, hml, hown, hts⟩ := id C
  obtain ⟨hK, hN⟩ := id G
  unfold f_X4_readTown_89 at hf
  refine lv_bipush (v := -10) hx hb dX4_readTown_89 (by decide) ?_
  refine lv_aload_n hx hb dX4_readTown_91 rfl (lv_at hl 0 rfl) ?_
  refine va_get (D := (dC, dI)) (ci := 4) (v := .int ((X.1 0))) (C := RX4) (T := TX4) (N := 6) hx hb hts in_X4_readTown_X4 hown hK hP 0 rfl rfl 0 (by decide) (hts (.fieldLink RX4 15 "BackLoans$Text" "length" "I") (by decide +kernel)) (fun _ h9 => h9) rfl dX4_readTown_92 ?_
  refine lv_isub hx hb dX4_readTown_95 ?_
  exact hR _ _ _ _ _ _ dX4_readTown_96 hf hP hD hS
def f_X4_readTown  (X : Tx) (T : Tw) : Option (Int32 × Tx × Tw) :=
  lett ((upd X.1 3 ((0 : Int32)), X.2)) fun X_2 =>
  bn (f_X5_makeEmpty T) fun r6 =>
  lett (0 : Int32) fun x2_10 =>
  l_X4_readTown_11 (fun Xz Tz => f_X4_readTown_75 Xz Tz) (fun Xz Tz => f_X4_readTown_89 Xz Tz) FU x2_10 X_2 r6
set_option maxHeartbeats 4000000 in
set_option maxRecDepth 100000 in
theorem c_X4_readTown (l : Launch) (dC : Nat → ClassId) (dI : Nat → Nat → Nat) (cs : Nat → ClassId) (adK : Nat → Nat) (adV : Nat → Nat) (a : Nat → Nat) (b : Nat → Nat) (sz : Nat) (X : Tx) (T : Tw)  (res : Int32 × Tx × Tw) (hf : f_X4_readTown X T = some res) : Met l yX4_readTown wsX4_readTown ({ frames := 6, cells := 0, slots := 0, locals := 128 }) (va_Pc [.ref (a 0), .ref (b 0)] (fun U => U.heap.size = sz ∧ va_P (dC, dI) vwCl (wX cs a X ++ wT cs b T) U.heap ∧ GE dC dI cs U ∧ va_D (fun _ => True) (wX cs a X ++ wT cs b T) ∧ SE adK adV (va_A (wX cs a X ++ wT cs b T) sz) U U.heap)) (va_Qi (fun r (u : Tx × Tw) => r = res.1 ∧ u = res.2) (fun u t => va_P (dC, dI) vwCl ((fun u : Tx × Tw => (wX cs a u.1 ++ wT cs b u.2)) u) t.heap ∧ va_D (va_A (wX cs a X ++ wT cs b T) sz) ((fun u : Tx × Tw => (wX cs a u.1 ++ wT cs b u.2)) u)) (va_A (wX cs a X ++ wT cs b T) sz)) 0 0 (va_A (wX cs a X ++ wT cs b T) sz) := by
  refine Met.ofW (cc := cX4_readTown) (maxL := 4) (ret := (some .int)) (by decide) rfl ?_
  intro p e s m args below meth c s₁ Bd hml hv
  obtain ⟨rfl, hsz, hP, G, hD0, hE⟩ := hv
  have hts := atoms_spec (ws := wsX4_readTown) Bd.pre
  have hown : s.vm.findClass RX4 = some m.cls := findClass_of_methodNamed Bd.named
  have hlocks := Bd.notSynchronized
  have hx := Bd.exec
  have hb := Bd.bytes
  have hr := Bd.returns
  have C : CallFix p m c cX4_readTown 4 s _ wsX4_readTown RX4 := ⟨hx, hb, hml, hown, hts⟩
  obtain ⟨hK, hN⟩ := id G
  subst hsz
  have hD := hD0.self (sz := s.heap.size)
  generalize hAe : va_A (wX cs a X ++ wT cs b T) s.heap.size = A at hD hE ⊢
  have hA : ∀ q : Nat, s.heap.size ≤ q → A q := fun q h => by rw [← hAe]; exact Or.inr h
  have hS : va_S A s.heap s.heap [] := va_S.rf
  have hR : RTi p l e ({ frames := 6, cells := 0, slots := 0, locals := 128 }) s m ([.ref (a 0), .ref (b 0)] : List Value).toArray below meth c cX4_readTown (MQ below (va_Qi (fun r (u : Tx × Tw) => r = res.1 ∧ u = res.2) (fun u t => va_P (dC, dI) vwCl ((fun u : Tx × Tw => (wX cs a u.1 ++ wT cs b u.2)) u) t.heap ∧ va_D A ((fun u : Tx × Tw => (wX cs a u.1 ++ wT cs b u.2)) u)) A) ([.ref (a 0), .ref (b 0)] : List Value).toArray s 0 0 A) (dC, dI) A (fun u : Tx × Tw => (wX cs a u.1 ++ wT cs b u.2)) res := fun H locs pc ls r u dd h hP hD hS => W.iret hx hb hr (fun t ht hW => ⟨⟨r, u, rfl, by cases h; exact ⟨rfl, rfl⟩, by rw [ht]; exact hP, hD⟩, hS.F ht⟩) hS.2.2 dd
  have hl := lv_entry ([.ref (a 0), .ref (b 0)]) (n := 4) (Nat.le_of_ble_eq_true rfl)
  rw [lg_entry_eq]
  generalize (lg_sl ([.ref (a 0), .ref (b 0)]) ++ List.replicate (4 - (lg_sl ([.ref (a 0), .ref (b 0)])).length) Slot.unset).toArray = ls at hl ⊢
  have hl : lv_has ls 4 [(0, .ref (a 0)), (1, .ref (b 0))] := hl
  unfold f_X4_readTown at hf
  refine lv_aload_n hx hb dX4_readTown_0 rfl (lv_at hl 0 rfl) ?_
  refine lv_iconst (v := 0) hx hb dX4_readTown_1 (by decide) ?_
  refine va_put (D := (dC, dI)) (ci := 4) (v := .int ((0 : Int32))) (ty := .int) (C := RX4) (T := TX4) (N := 6) hx hb hts in_X4_readTown_X4 tyX4 tyX4_ok nmX4 hown hK hP hD hS 0 rfl rfl 4 (by decide) (hts (.fieldLink RX4 19 "BackLoans$Text" "behind" "I") (by decide +kernel)) (fun _ h9 => h9) rfl (by decide +kernel) rfl rfl (Nat.le_of_ble_eq_true rfl) dX4_readTown_2 (fun H locs hP hD hS => ?_)
  obtain ⟨X_2, hP, hD, hf⟩ := st_nm (ws := fun X_2 : Tx => (wX cs a X_2 ++ wT cs b T)) ((upd X.1 3 ((0 : Int32)), X.2)) hP hD hf
  refine lv_aload_n hx hb dX4_readTown_5 rfl (lv_at hl 1 rfl) ?_
  obtain ⟨r6, hr6, hf⟩ := bn_e hf
  have hPc := hP.sub (ws' := (wT cs b T)) [2, 3, 4, 5, 6, 7, 8, 9, 10, 11, 12] rfl
  have hDc := hD.sub (ws' := (wT cs b T)) [2, 3, 4, 5, 6, 7, 8, 9, 10, 11, 12] (by decide) rfl
  have hFc := va_free (wc := (wT cs b T)) hD hS hA [2, 3, 4, 5, 6, 7, 8, 9, 10, 11, 12] rfl
  refine va_callv (va_runV (As := []) (rest := []) C (c_X5_makeEmpty l dC dI cs b H.size T r6 hr6) (cwV 0 hts gX4_readTown_X5_makeEmpty rfl rfl rfl (by decide +kernel) ⟨Nat.le_of_ble_eq_true rfl, Nat.le_of_ble_eq_true rfl⟩) ⟨(fun a U g mk q => ⟨q.1, q.2.1, q.2.2.1, GE.calling q.2.2.2.1, q.2.2.2.2⟩), va_recv hK hPc (ci := 5) (q0 := 0) rfl rfl, (fun U hU hW => ⟨rfl, by rw [hU], by rw [hU]; exact hPc, GE.warm hW G, hDc.weaken (fun _ _ _ _ => trivial)⟩)⟩ rfl rfl hl.1 rfl (lv_room (Nat.le_of_ble_eq_true rfl)) dX4_readTown_6 ⟨Nat.le_of_ble_eq_true rfl, Nat.le_of_ble_eq_true rfl⟩) hS (fun q _ h => hFc q h) hFc (fun u t H1 locs ht hvm hw hB hz1 hk1 hS => ?_)
  obtain rfl := hw.symm
  obtain ⟨hP1, hD1⟩ := hB
  rw [ht] at hP1
  obtain ⟨hP, hD⟩ := va_join (wr := [0, 1].filterMap (fun i => ((wX cs a X_2 ++ wT cs b T))[i]?)) (w1 := (wT cs b r6)) hP hD [2, 3, 4, 5, 6, 7, 8, 9, 10, 11, 12] [0, 1] rfl rfl (by decide) (by decide) hk1 hFc hP1 hD1
  generalize H1 = H at hP hS ⊢
  have hP := hP.sub (ws' := (wX cs a X_2 ++ wT cs b r6)) [0, 1, 2, 3, 4, 5, 6, 7, 8, 9, 10, 11, 12] rfl
  have hD := hD.sub (ws' := (wX cs a X_2 ++ wT cs b r6)) [0, 1, 2, 3, 4, 5, 6, 7, 8, 9, 10, 11, 12] (by decide) rfl
  refine lv_iconst (v := 0) hx hb dX4_readTown_9 (by decide) ?_
  refine lv_topi (fun x2_10 ex2_10 => ?_)
  replace hf := lett_s ex2_10 hf
  refine lv_istore_n (lv' := [(2, .int (x2_10)), (0, .ref (a 0)), (1, .ref (b 0))]) hx hb dX4_readTown_10 rfl hl (by decide) rfl (fun ls hl => ?_)
  exact w_X4_readTown_11 C G hE hA hR (fun Xz Tz H locs ls hl hP hD hS hf => b_X4_readTown_75 C G hE hA hR Xz Tz _ _ _ hl hP hD hS hf) (fun Xz Tz H locs ls hl hP hD hS hf => b_X4_readTown_89 C G hE hA hR Xz Tz _ _ _ hl hP hD hS hf) FU x2_10 X_2 r6 _ _ _ (lv_sub hl [1, 2, 0] rfl) hP hD hS hf

theorem in_X7_read_X1 : ∀ w ∈ wsX10, w ∈ wsX7_read := by decide +kernel
theorem in_X7_read_X7 : ∀ w ∈ wsX70, w ∈ wsX7_read := by decide +kernel
def f_X7_read  (B : Nat → Int32) (N : Tw) (P : Ps) (X : Tx) (R : Tw) : Option (Int32 × Tw × Ps × Tx × Tw) :=
  bn (f_X4_readTown X R) fun r11 =>
  if 0 ≤ r11.1 then (
    bn (f_X5_copyFrom N r11.2.2) fun r32 =>
    bn (f_X3_forget P) fun r39 =>
    some (r11.1, (r32, r39, r11.2.1, r11.2.2))
  ) else (
    some (r11.1, (N, P, r11.2.1, r11.2.2))
  )
set_option maxHeartbeats 4000000 in
set_option maxRecDepth 100000 in
theorem c_X7_read (l : Launch) (dC : Nat → ClassId) (dI : Nat → Nat → Nat) (cs : Nat → ClassId) (g : Nat → Nat) (adK : Nat → Nat) (adV : Nat → Nat) (sz : Nat) (B : Nat → Int32) (N : Tw) (P : Ps) (X : Tx) (R : Tw)  (res : Int32 × Tw × Ps × Tx × Tw) (hf : f_X7_read B N P X R = some res) : Met l yX7_read wsX7_read ({ frames := 7, cells := 0, slots := 0, locals := 151 }) (va_Pc [.ref (g 0)] (fun U => U.heap.size = sz ∧ va_P (dC, dI) vwCl (wB g B ++ wT cs (fun i => g (1 + i)) N ++ wP cs (fun i => g (12 + i)) P ++ wX cs (fun i => g (42 + i)) X ++ wF (g 44) (g 45) ++ wT cs (fun i => g (45 + i)) R) U.heap ∧ GE dC dI cs U ∧ va_D (fun _ => True) (wB g B ++ wT cs (fun i => g (1 + i)) N ++ wP cs (fun i => g (12 + i)) P ++ wX cs (fun i => g (42 + i)) X ++ wF (g 44) (g 45) ++ wT cs (fun i => g (45 + i)) R) ∧ SE adK adV (va_A (wB g B ++ wT cs (fun i => g (1 + i)) N ++ wP cs (fun i => g (12 + i)) P ++ wX cs (fun i => g (42 + i)) X ++ wF (g 44) (g 45) ++ wT cs (fun i => g (45 + i)) R) sz) U U.heap)) (va_Qi (fun r (u : Tw × Ps × Tx × Tw) => r = res.1 ∧ u = res.2) (fun u t => va_P (dC, dI) vwCl ((fun u : Tw × Ps × Tx × Tw => (wB g B ++ wT cs (fun i => g (1 + i)) u.1 ++ wP cs (fun i => g (12 + i)) u.2.1 ++ wX cs (fun i => g (42 + i)) u.2.2.1 ++ wF (g 44) (g 45) ++ wT cs (fun i => g (45 + i)) u.2.2.2)) u) t.heap ∧ va_D (va_A (wB g B ++ wT cs (fun i => g (1 + i)) N ++ wP cs (fun i => g (12 + i)) P ++ wX cs (fun i => g (42 + i)) X ++ wF (g 44) (g 45) ++ wT cs (fun i => g (45 + i)) R) sz) ((fun u : Tw × Ps × Tx × Tw => (wB g B ++ wT cs (fun i => g (1 + i)) u.1 ++ wP cs (fun i => g (12 + i)) u.2.1 ++ wX cs (fun i => g (42 + i)) u.2.2.1 ++ wF (g 44) (g 45) ++ wT cs (fun i => g (45 + i)) u.2.2.2)) u)) (va_A (wB g B ++ wT cs (fun i => g (1 + i)) N ++ wP cs (fun i => g (12 + i)) P ++ wX cs (fun i => g (42 + i)) X ++ wF (g 44) (g 45) ++ wT cs (fun i => g (45 + i)) R) sz)) 0 0 (va_A (wB g B ++ wT cs (fun i => g (1 + i)) N ++ wP cs (fun i => g (12 + i)) P ++ wX cs (fun i => g (42 + i)) X ++ wF (g 44) (g 45) ++ wT cs (fun i => g (45 + i)) R) sz) := by
  refine Met.ofW (cc := cX7_read) (maxL := 2) (ret := (some .int)) (by decide) rfl ?_
  intro p e s m args below meth c s₁ Bd hml hv
  obtain ⟨rfl, hsz, hP, G, hD0, hE⟩ := hv
  have hts := atoms_spec (ws := wsX7_read) Bd.pre
  have hown : s.vm.findClass RX7 = some m.cls := findClass_of_methodNamed Bd.named
  have hlocks := Bd.notSynchronized
  have hx := Bd.exec
  have hb := Bd.bytes
  have hr := Bd.returns
  have C : CallFix p m c cX7_read 2 s _ wsX7_read RX7 := ⟨hx, hb, hml, hown, hts⟩
  obtain ⟨hK, hN⟩ := id G
  subst hsz
  have hD := hD0.self (sz := s.heap.size)
  generalize hAe : va_A (wB g B ++ wT cs (fun i => g (1 + i)) N ++ wP cs (fun i => g (12 + i)) P ++ wX cs (fun i => g (42 + i)) X ++ wF (g 44) (g 45) ++ wT cs (fun i => g (45 + i)) R) s.heap.size = A at hD hE ⊢
  have hA : ∀ q : Nat, s.heap.size ≤ q → A q := fun q h => by rw [← hAe]; exact Or.inr h
  have hS : va_S A s.heap s.heap [] := va_S.rf
  have hR : RTi p l e ({ frames := 7, cells := 0, slots := 0, locals := 151 }) s m ([.ref (g 0)] : List Value).toArray below meth c cX7_read (MQ below (va_Qi (fun r (u : Tw × Ps × Tx × Tw) => r = res.1 ∧ u = res.2) (fun u t => va_P (dC, dI) vwCl ((fun u : Tw × Ps × Tx × Tw => (wB g B ++ wT cs (fun i => g (1 + i)) u.1 ++ wP cs (fun i => g (12 + i)) u.2.1 ++ wX cs (fun i => g (42 + i)) u.2.2.1 ++ wF (g 44) (g 45) ++ wT cs (fun i => g (45 + i)) u.2.2.2)) u) t.heap ∧ va_D A ((fun u : Tw × Ps × Tx × Tw => (wB g B ++ wT cs (fun i => g (1 + i)) u.1 ++ wP cs (fun i => g (12 + i)) u.2.1 ++ wX cs (fun i => g (42 + i)) u.2.2.1 ++ wF (g 44) (g 45) ++ wT cs (fun i => g (45 + i)) u.2.2.2)) u)) A) ([.ref (g 0)] : List Value).toArray s 0 0 A) (dC, dI) A (fun u : Tw × Ps × Tx × Tw => (wB g B ++ wT cs (fun i => g (1 + i)) u.1 ++ wP cs (fun i => g (12 + i)) u.2.1 ++ wX cs (fun i => g (42 + i)) u.2.2.1 ++ wF (g 44) (g 45) ++ wT cs (fun i => g (45 + i)) u.2.2.2)) res := fun H locs pc ls r u dd h hP hD hS => W.iret hx hb hr (fun t ht hW => ⟨⟨r, u, rfl, by cases h; exact ⟨rfl, rfl⟩, by rw [ht]; exact hP, hD⟩, hS.F ht⟩) hS.2.2 dd
  have hl := lv_entry ([.ref (g 0)]) (n := 2) (Nat.le_of_ble_eq_true rfl)
  rw [lg_entry_eq]
  generalize (lg_sl ([.ref (g 0)]) ++ List.replicate (2 - (lg_sl ([.ref (g 0)])).length) Slot.unset).toArray = ls at hl ⊢
  have hl : lv_has ls 2 [(0, .ref (g 0))] := hl
  unfold f_X7_read at hf
  refine lv_aload_n hx hb dX7_read_0 rfl (lv_at hl 0 rfl) ?_
  refine va_get (D := (dC, dI)) (ci := 7) (v := .ref (g 42)) (C := RX7) (T := TX7) (N := 11) hx hb hts in_X7_read_X7 hown hK hP 0 rfl rfl 4 (by decide) (hts (.fieldLink RX7 36 "BackLoans" "text" "LBackLoans$Text;") (by decide +kernel)) (fun _ h9 => h9) rfl dX7_read_1 ?_
  refine lv_aload_n hx hb dX7_read_4 rfl (lv_at hl 0 rfl) ?_
  refine va_get (D := (dC, dI)) (ci := 7) (v := .ref (g 44)) (C := RX7) (T := TX7) (N := 11) hx hb hts in_X7_read_X7 hown hK hP 0 rfl rfl 5 (by decide) (hts (.fieldLink RX7 43 "BackLoans" "foresight" "LBackLoans$Foresight;") (by decide +kernel)) (fun _ h9 => h9) rfl dX7_read_5 ?_
  refine va_get (D := (dC, dI)) (ci := 1) (v := .ref (g 45)) (C := RX1) (T := TX1) (N := 1) hx hb hts in_X7_read_X1 hown hK hP 16 rfl rfl 0 (by decide) (hts (.fieldLink RX7 111 "BackLoans$Foresight" "trial" "LBackLoans$Town;") (by decide +kernel)) (fun _ h9 => h9) rfl dX7_read_8 ?_
  obtain ⟨r11, hr11, hf⟩ := bn_e hf
  have hPc := hP.sub (ws' := (wX cs (fun i => g (42 + i)) X ++ wT cs (fun i => g (45 + i)) R)) [14, 15, 17, 18, 19, 20, 21, 22, 23, 24, 25, 26, 27] rfl
  have hDc := hD.sub (ws' := (wX cs (fun i => g (42 + i)) X ++ wT cs (fun i => g (45 + i)) R)) [14, 15, 17, 18, 19, 20, 21, 22, 23, 24, 25, 26, 27] (by decide) rfl
  have hFc := va_free (wc := (wX cs (fun i => g (42 + i)) X ++ wT cs (fun i => g (45 + i)) R)) hD hS hA [14, 15, 17, 18, 19, 20, 21, 22, 23, 24, 25, 26, 27] rfl
  refine va_calli (va_runV (As := [.ref (g 45)]) (rest := []) C (c_X4_readTown l dC dI cs adK adV (fun i => g (42 + i)) (fun i => g (45 + i)) s.heap.size X R r11 hr11) (cwV 1 hts gX7_read_X4_readTown rfl rfl rfl (by decide +kernel) ⟨Nat.le_of_ble_eq_true rfl, Nat.le_of_ble_eq_true rfl⟩) ⟨(fun a U g mk q => ⟨q.1, q.2.1, q.2.2.1, GE.calling q.2.2.2.1, q.2.2.2.2.1, SE.calling q.2.2.2.2.2⟩), va_recv hK hPc (ci := 4) (q0 := 0) rfl rfl, (fun U hU hW => ⟨rfl, by rw [hU], by rw [hU]; exact hPc, GE.warm hW G, hDc.weaken (fun _ _ _ _ => trivial), by rw [hU]; exact SE.warm hW ((hE.kept hS.2.1).narrow hFc)⟩)⟩ rfl rfl hl.1 rfl (lv_room (Nat.le_of_ble_eq_true rfl)) dX7_read_11 ⟨Nat.le_of_ble_eq_true rfl, Nat.le_of_ble_eq_true rfl⟩) hS (fun q _ h => hFc q h) hFc (fun q u t H1 locs ht hvm hw hB hz1 hk1 hS => ?_)
  obtain ⟨rfl, rfl⟩ := hw
  obtain ⟨hP1, hD1⟩ := hB
  rw [ht] at hP1
  obtain ⟨hP, hD⟩ := va_join (wr := [0, 1, 2, 3, 4, 5, 6, 7, 8, 9, 10, 11, 12, 13, 16].filterMap (fun i => ((wB g B ++ wT cs (fun i => g (1 + i)) N ++ wP cs (fun i => g (12 + i)) P ++ wX cs (fun i => g (42 + i)) X ++ wF (g 44) (g 45) ++ wT cs (fun i => g (45 + i)) R))[i]?)) (w1 := (wX cs (fun i => g (42 + i)) r11.2.1 ++ wT cs (fun i => g (45 + i)) r11.2.2)) hP hD [14, 15, 17, 18, 19, 20, 21, 22, 23, 24, 25, 26, 27] [0, 1, 2, 3, 4, 5, 6, 7, 8, 9, 10, 11, 12, 13, 16] rfl rfl (by decide) (by decide) hk1 hFc hP1 hD1
  generalize H1 = H at hP hS ⊢
  have hP := hP.sub (ws' := (wB g B ++ wT cs (fun i => g (1 + i)) N ++ wP cs (fun i => g (12 + i)) P ++ wX cs (fun i => g (42 + i)) r11.2.1 ++ wF (g 44) (g 45) ++ wT cs (fun i => g (45 + i)) r11.2.2)) [0, 1, 2, 3, 4, 5, 6, 7, 8, 9, 10, 11, 12, 13, 15, 16, 14, 17, 18, 19, 20, 21, 22, 23, 24, 25, 26, 27] rfl
  have hD := hD.sub (ws' := (wB g B ++ wT cs (fun i => g (1 + i)) N ++ wP cs (fun i => g (12 + i)) P ++ wX cs (fun i => g (42 + i)) r11.2.1 ++ wF (g 44) (g 45) ++ wT cs (fun i => g (45 + i)) r11.2.2)) [0, 1, 2, 3, 4, 5, 6, 7, 8, 9, 10, 11, 12, 13, 15, 16, 14, 17, 18, 19, 20, 21, 22, 23, 24, 25, 26, 27] (by decide) rfl
  refine lv_istore_n (lv' := [(1, .int (r11.1)), (0, .ref (g 0))]) hx hb dX7_read_14 rfl hl (by decide) rfl (fun ls hl => ?_)
  refine lv_iload_n hx hb dX7_read_15 rfl (lv_at hl 0 rfl) ?_
  refine lv_if_ge (tgt := 21) hx hb dX7_read_16 (by decide) (fun c1 => ?_) (fun c1 => ?_)
  · replace hf := it_t c1 hf
    refine lv_aload_n hx hb dX7_read_21 rfl (lv_at hl 1 rfl) ?_
    refine va_get (D := (dC, dI)) (ci := 7) (v := .ref (g 1)) (C := RX7) (T := TX7) (N := 11) hx hb hts in_X7_read_X7 hown hK hP 0 rfl rfl 0 (by decide) (hts (.fieldLink RX7 10 "BackLoans" "now" "LBackLoans$Town;") (by decide +kernel)) (fun _ h9 => h9) rfl dX7_read_22 ?_
    refine lv_aload_n hx hb dX7_read_25 rfl (lv_at hl 1 rfl) ?_
    refine va_get (D := (dC, dI)) (ci := 7) (v := .ref (g 44)) (C := RX7) (T := TX7) (N := 11) hx hb hts in_X7_read_X7 hown hK hP 0 rfl rfl 5 (by decide) (hts (.fieldLink RX7 43 "BackLoans" "foresight" "LBackLoans$Foresight;") (by decide +kernel)) (fun _ h9 => h9) rfl dX7_read_26 ?_
    refine va_get (D := (dC, dI)) (ci := 1) (v := .ref (g 45)) (C := RX1) (T := TX1) (N := 1) hx hb hts in_X7_read_X1 hown hK hP 16 rfl rfl 0 (by decide) (hts (.fieldLink RX7 111 "BackLoans$Foresight" "trial" "LBackLoans$Town;") (by decide +kernel)) (fun _ h9 => h9) rfl dX7_read_29 ?_
    obtain ⟨r32, hr32, hf⟩ := bn_e hf
    have hPc := hP.sub (ws' := (wT cs (fun i => g (1 + i)) N ++ wT cs (fun i => g (45 + i)) r11.2.2)) [1, 2, 3, 4, 5, 6, 7, 8, 9, 10, 11, 17, 18, 19, 20, 21, 22, 23, 24, 25, 26, 27] rfl
    have hDc := hD.sub (ws' := (wT cs (fun i => g (1 + i)) N ++ wT cs (fun i => g (45 + i)) r11.2.2)) [1, 2, 3, 4, 5, 6, 7, 8, 9, 10, 11, 17, 18, 19, 20, 21, 22, 23, 24, 25, 26, 27] (by decide) rfl
    have hFc := va_free (wc := (wT cs (fun i => g (1 + i)) N ++ wT cs (fun i => g (45 + i)) r11.2.2)) hD hS hA [1, 2, 3, 4, 5, 6, 7, 8, 9, 10, 11, 17, 18, 19, 20, 21, 22, 23, 24, 25, 26, 27] rfl
    refine va_callv (va_runV (As := [.ref (g 45)]) (rest := []) C (c_X5_copyFrom l dC dI cs (fun i => g (1 + i)) (fun i => g (45 + i)) H.size N r11.2.2 r32 hr32) (cwV 1 hts gX7_read_X5_copyFrom rfl rfl rfl (by decide +kernel) ⟨Nat.le_of_ble_eq_true rfl, Nat.le_of_ble_eq_true rfl⟩) ⟨(fun a U g mk q => ⟨q.1, q.2.1, q.2.2.1, GE.calling q.2.2.2.1, q.2.2.2.2⟩), va_recv hK hPc (ci := 5) (q0 := 0) rfl rfl, (fun U hU hW => ⟨rfl, by rw [hU], by rw [hU]; exact hPc, GE.warm hW G, hDc.weaken (fun _ _ _ _ => trivial)⟩)⟩ rfl rfl hl.1 rfl (lv_room (Nat.le_of_ble_eq_true rfl)) dX7_read_32 ⟨Nat.le_of_ble_eq_true rfl, Nat.le_of_ble_eq_true rfl⟩) hS (fun q _ h => hFc q h) hFc (fun u t H1 locs ht hvm hw hB hz1 hk1 hS => ?_)
    obtain rfl := hw.symm
    obtain ⟨hP1, hD1⟩ := hB
    rw [ht] at hP1
    obtain ⟨hP, hD⟩ := va_join (wr := [0, 12, 13, 14, 15, 16].filterMap (fun i => ((wB g B ++ wT cs (fun i => g (1 + i)) N ++ wP cs (fun i => g (12 + i)) P ++ wX cs (fun i => g (42 + i)) r11.2.1 ++ wF (g 44) (g 45) ++ wT cs (fun i => g (45 + i)) r11.2.2))[i]?)) (w1 := (wT cs (fun i => g (1 + i)) r32 ++ wT cs (fun i => g (45 + i)) r11.2.2)) hP hD [1, 2, 3, 4, 5, 6, 7, 8, 9, 10, 11, 17, 18, 19, 20, 21, 22, 23, 24, 25, 26, 27] [0, 12, 13, 14, 15, 16] rfl rfl (by decide) (by decide) hk1 hFc hP1 hD1
    generalize H1 = H at hP hS ⊢
    have hP := hP.sub (ws' := (wB g B ++ wT cs (fun i => g (1 + i)) r32 ++ wP cs (fun i => g (12 + i)) P ++ wX cs (fun i => g (42 + i)) r11.2.1 ++ wF (g 44) (g 45) ++ wT cs (fun i => g (45 + i)) r11.2.2)) [0, 6, 7, 8, 9, 10, 11, 12, 13, 14, 15, 16, 1, 2, 3, 4, 5, 17, 18, 19, 20, 21, 22, 23, 24, 25, 26, 27] rfl
    have hD := hD.sub (ws' := (wB g B ++ wT cs (fun i => g (1 + i)) r32 ++ wP cs (fun i => g (12 + i)) P ++ wX cs (fun i => g (42 + i)) r11.2.1 ++ wF (g 44) (g 45) ++ wT cs (fun i => g (45 + i)) r11.2.2)) [0, 6, 7, 8, 9, 10, 11, 12, 13, 14, 15, 16, 1, 2, 3, 4, 5, 17, 18, 19, 20, 21, 22, 23, 24, 25, 26, 27] (by decide) rfl
    refine lv_aload_n hx hb dX7_read_35 rfl (lv_at hl 1 rfl) ?_
    refine va_get (D := (dC, dI)) (ci := 7) (v := .ref (g 12)) (C := RX7) (T := TX7) (N := 11) hx hb hts in_X7_read_X7 hown hK hP 0 rfl rfl 1 (by decide) (hts (.fieldLink RX7 19 "BackLoans" "past" "LBackLoans$Past;") (by decide +kernel)) (fun _ h9 => h9) rfl dX7_read_36 ?_
    obtain ⟨r39, hr39, hf⟩ := bn_e hf
    have hPc := hP.sub (ws' := (wP cs (fun i => g (12 + i)) P)) [12, 13] rfl
    have hDc := hD.sub (ws' := (wP cs (fun i => g (12 + i)) P)) [12, 13] (by decide) rfl
    have hFc := va_free (wc := (wP cs (fun i => g (12 + i)) P)) hD hS hA [12, 13] rfl
    refine va_callv (va_runV (As := []) (rest := []) C (c_X3_forget l dC dI cs (fun i => g (12 + i)) H.size P r39 hr39) (cwV 0 hts gX7_read_X3_forget rfl rfl rfl (by decide +kernel) ⟨Nat.le_of_ble_eq_true rfl, Nat.le_of_ble_eq_true rfl⟩) ⟨(fun a U g mk q => ⟨q.1, q.2.1, q.2.2.1, GE.calling q.2.2.2.1, q.2.2.2.2⟩), va_recv hK hPc (ci := 3) (q0 := 0) rfl rfl, (fun U hU hW => ⟨rfl, by rw [hU], by rw [hU]; exact hPc, GE.warm hW G, hDc.weaken (fun _ _ _ _ => trivial)⟩)⟩ rfl rfl hl.1 rfl (lv_room (Nat.le_of_ble_eq_true rfl)) dX7_read_39 ⟨Nat.le_of_ble_eq_true rfl, Nat.le_of_ble_eq_true rfl⟩) hS (fun q _ h => hFc q h) hFc (fun u t H1 locs ht hvm hw hB hz1 hk1 hS => ?_)
    obtain rfl := hw.symm
    obtain ⟨hP1, hD1⟩ := hB
    rw [ht] at hP1
    obtain ⟨hP, hD⟩ := va_join (wr := [0, 1, 2, 3, 4, 5, 6, 7, 8, 9, 10, 11, 14, 15, 16, 17, 18, 19, 20, 21, 22, 23, 24, 25, 26, 27].filterMap (fun i => ((wB g B ++ wT cs (fun i => g (1 + i)) r32 ++ wP cs (fun i => g (12 + i)) P ++ wX cs (fun i => g (42 + i)) r11.2.1 ++ wF (g 44) (g 45) ++ wT cs (fun i => g (45 + i)) r11.2.2))[i]?)) (w1 := (wP cs (fun i => g (12 + i)) r39)) hP hD [12, 13] [0, 1, 2, 3, 4, 5, 6, 7, 8, 9, 10, 11, 14, 15, 16, 17, 18, 19, 20, 21, 22, 23, 24, 25, 26, 27] rfl rfl (by decide) (by decide) hk1 hFc hP1 hD1
    generalize H1 = H at hP hS ⊢
    have hP := hP.sub (ws' := (wB g B ++ wT cs (fun i => g (1 + i)) r32 ++ wP cs (fun i => g (12 + i)) r39 ++ wX cs (fun i => g (42 + i)) r11.2.1 ++ wF (g 44) (g 45) ++ wT cs (fun i => g (45 + i)) r11.2.2)) [0, 1, 2, 3, 4, 5, 6, 7, 8, 9, 10, 11, 26, 27, 12, 13, 14, 15, 16, 17, 18, 19, 20, 21, 22, 23, 24, 25] rfl
    have hD := hD.sub (ws' := (wB g B ++ wT cs (fun i => g (1 + i)) r32 ++ wP cs (fun i => g (12 + i)) r39 ++ wX cs (fun i => g (42 + i)) r11.2.1 ++ wF (g 44) (g 45) ++ wT cs (fun i => g (45 + i)) r11.2.2)) [0, 1, 2, 3, 4, 5, 6, 7, 8, 9, 10, 11, 26, 27, 12, 13, 14, 15, 16, 17, 18, 19, 20, 21, 22, 23, 24, 25] (by decide) rfl
    refine lv_iload_n hx hb dX7_read_42 rfl (lv_at hl 0 rfl) ?_
    exact hR _ _ _ _ _ _ dX7_read_43 hf hP hD hS
  · replace hf := it_f c1 hf
    refine lv_iload_n hx hb dX7_read_19 rfl (lv_at hl 0 rfl) ?_
    exact hR _ _ _ _ _ _ dX7_read_20 hf hP hD hS

