/-! THE CLAIM OUT OF ONE WALK OF THE LAW'S BODY. Your part is whole_start (and what it stands on); all else here is the same for every law, but numbers. -/
def R_law : String := "BackLoansLaw"
def lw_P (b : Addr) (xs : List Int32) (args : Array Value) (s : State) : Prop := args = #[.ref b] ∧ s.IntsAt b xs ∧ xs.length ≤ 320 ∧ (Jvm.Cond.and given_1 narrow_1).before args s = true
def lw_Q (_ : Array Value) (s : State) (o : Outcome) (t : State) : Prop := o = .returned (some (.int 1)) ∧ Framed s o t [] 74 3434
def lw_Z (below : List Frame) (a : Array Value) (s : State) : State → Prop := fun t => ∃ o, t.status = .running ∧ Ended t below o ∧ lw_Q a s o t
/-- the law's own end, with 1 on the stack, nothing written that was there before, its room as the claim has it -/
theorem lw_ret {p : Program} {l : Launch} {e : Env} {s : State} {m : MethodId} {below : List Frame} {meth : Method} {c : Code} {b : Nat} (hx : p.tables.exec = Jvm.exec) (hb : c.code = code) (hr : meth.sig.returnType = ret) (hlocks : meth.locks = false) {pc : Nat} {H : Heap} {ls : Array Slot} (hdg : decode code pc = .ok (.ireturn, 1)) : W p l e room_1 s m #[Value.ref b] below meth c H [] 74 3434 (lw_Z below #[Value.ref b] s) (F0 m pc ls [.int 1]) := by
  intro T hT X
  obtain ⟨fs, hret, hrun, hended, hW, hframe⟩ := X.leave (v := some (.int 1)) (hlocks := hlocks) (fun h => by rw [hr] at h; cases h)
  have hmeth' : T.vm.method? m = some meth := X.method'
  refine ⟨T.setFrames fs, ?_, .returned (some (.int 1)), hrun, hended, rfl, ⟨_, rfl⟩, hW, hframe⟩
  jvm_step X.here [X.here.top, hx, hb, hdg, hmeth', hr, ret, narrow_b1]
  (try refine ⟨rfl, ?_⟩); (try refine ⟨rfl, ?_⟩)
  first | (intro acts; rw [hret _ acts rfl rfl rfl]) | rw [hret _ _ rfl rfl rfl]
  exact Steps.refl _
/-- what holds at the law's entry: the machine, the code, the tables' words (any of lw_tbl by 'hts w (by decide +kernel)'), the script of L ints xs at the cell b, what the Statement gives of the start (any of its parts by flat_of_before) -/
def lw_At (p : Program) (s : State) (m : MethodId) (meth : Method) (c : Code) (b L : Nat) (xs : Nat → Int32) : Prop :=
  p.tables.exec = Jvm.exec ∧ c.code = code ∧ meth.sig.returnType = ret ∧ c.maxLocals = 4 ∧ s.vm.findClass R_law = some m.cls ∧ (∀ w ∈ lw_tbl, w.before #[Value.ref b] s = true) ∧ va_X b L xs s s.heap ∧ b < s.heap.size ∧ meth.locks = false ∧ (Jvm.Cond.and given_1 narrow_1).before #[Value.ref b] s = true
set_option maxHeartbeats 16000000 in
set_option maxRecDepth 100000 in
/-- the tables: classes, array classes, nest links, String constants -/
theorem law_env {s : State} {b : Nat} (hts0 : ∀ w ∈ lw_tbl, w.before #[Value.ref b] s = true) (hgv : (Jvm.Cond.and given_1 narrow_1).before #[Value.ref b] s = true) : ∃ (dC : Nat → ClassId) (dI : Nat → Nat → Nat) (cs adK adV : Nat → Nat), GE dC dI cs s ∧ SE adK adV (fun q : Nat => s.heap.size ≤ q) s s.heap := by
  obtain ⟨c0, i0, k0⟩ := u_known (C := RX0) (T := TX0) (N := 3) (n := 3) hts0 inX0 (hts0 (.instantiable RX0 3) (tk_1 238 rfl))
  obtain ⟨c1, i1, k1⟩ := u_known (C := RX1) (T := TX1) (N := 1) (n := 1) hts0 inX1 (hts0 (.instantiable RX1 1) (tk_1 195 rfl))
  obtain ⟨c2, i2, k2⟩ := u_known (C := RX2) (T := TX2) (N := 3) (n := 3) hts0 inX2 (hts0 (.instantiable RX2 3) (tk_1 146 rfl))
  obtain ⟨c3, i3, k3⟩ := u_known (C := RX3) (T := TX3) (N := 2) (n := 2) hts0 inX3 (hts0 (.instantiable RX3 2) (tk_1 132 rfl))
  obtain ⟨c4, i4, k4⟩ := u_known (C := RX4) (T := TX4) (N := 6) (n := 6) hts0 inX4 (hts0 (.instantiable RX4 6) (tk_1 168 rfl))
  obtain ⟨c5, i5, k5⟩ := u_known (C := RX5) (T := TX5) (N := 17) (n := 17) hts0 inX5 (hts0 (.instantiable RX5 17) (tk_1 26 rfl))
  obtain ⟨c6, i6, k6⟩ := u_known (C := RX6) (T := TX6) (N := 7) (n := 7) hts0 inX6 (hts0 (.instantiable RX6 7) (tk_1 208 rfl))
  obtain ⟨c7, i7, k7⟩ := u_known (C := RX7) (T := TX7) (N := 11) (n := 11) hts0 inX7 (hts0 (.instantiable RX7 11) (tk_1 18 rfl))
  obtain ⟨c8, i8, k8⟩ := u_known (C := RX8) (T := TX8) (N := 20) (n := 20) hts0 inX8 (hts0 (.instantiable RX8 20) (tk_4 93 rfl))
  obtain ⟨a0, ka0, co0, f0, g0, e0⟩ := Cond.arrayClass_spec (hts0 (.arrayClass .int) (tk_1 130 rfl))
  obtain ⟨a1, ka1, co1, f1, g1, e1⟩ := Cond.arrayClass_spec (hts0 (.arrayClass .long) (tk_2 15 rfl))
  obtain ⟨a2, ka2, co2, f2, g2, e2⟩ := Cond.arrayClass_spec (hts0 (.arrayClass .byte) (tk_1 193 rfl))
  obtain ⟨a3, ka3, co3, f3, g3, e3⟩ := Cond.arrayClass_spec (hts0 (.arrayClass .boolean) (tk_4 159 rfl))
  have hA : ∀ a : Nat, a < s.heap.size → ¬ (fun q : Nat => s.heap.size ≤ q) a := fun a h => Nat.not_le.mpr h
  have hs := flat_of_before _ hgv
  obtain ⟨adK, adV, hSE, hev⟩ := vk_Sof (args := #[Value.ref b]) (s := s) (N := 5) (tm := fun i => Term.string "BackLoans$Text" (idxJ.getD i 0)) (len := lenJ) (byt := bytJ) (A := fun q : Nat => s.heap.size ≤ q)
    (fun i hi => by match i, hi with | 0, _ => decide | 1, _ => decide | 2, _ => decide | 3, _ => decide | 4, _ => decide | j + 5, h => exact absurd h (by omega))
    (fun i hi => by match i, hi with | 0, _ => exact hs _ (by decide +kernel) | 1, _ => exact hs _ (by decide +kernel) | 2, _ => exact hs _ (by decide +kernel) | 3, _ => exact hs _ (by decide +kernel) | 4, _ => exact hs _ (by decide +kernel) | j + 5, h => exact absurd h (by omega))
    (fun i hi => by match i, hi with | 0, _ => exact hs _ (by decide +kernel) | 1, _ => exact hs _ (by decide +kernel) | 2, _ => exact hs _ (by decide +kernel) | 3, _ => exact hs _ (by decide +kernel) | 4, _ => exact hs _ (by decide +kernel) | j + 5, h => exact absurd h (by omega))
    (fun i hi => by match i, hi with | 0, _ => exact hs _ (by decide +kernel) | 1, _ => exact hs _ (by decide +kernel) | 2, _ => exact hs _ (by decide +kernel) | 3, _ => exact hs _ (by decide +kernel) | 4, _ => exact hs _ (by decide +kernel) | j + 5, h => exact absurd h (by omega))
    (fun i hi => by match i, hi with | 0, _ => exact hs _ (by decide +kernel) | 1, _ => exact hs _ (by decide +kernel) | 2, _ => exact hs _ (by decide +kernel) | 3, _ => exact hs _ (by decide +kernel) | 4, _ => exact hs _ (by decide +kernel) | j + 5, h => exact absurd h (by omega))
    (fun i hi => by match i, hi with | 0, _ => (intro j hj; match j, hj with | 0, _ => exact hs _ (by decide +kernel) | 1, _ => exact hs _ (by decide +kernel) | 2, _ => exact hs _ (by decide +kernel) | 3, _ => exact hs _ (by decide +kernel) | 4, _ => exact hs _ (by decide +kernel) | j + 5, h => exact absurd h (by simp [lenJ])) | 1, _ => (intro j hj; match j, hj with | 0, _ => exact hs _ (by decide +kernel) | 1, _ => exact hs _ (by decide +kernel) | 2, _ => exact hs _ (by decide +kernel) | 3, _ => exact hs _ (by decide +kernel) | j + 4, h => exact absurd h (by simp [lenJ])) | 2, _ => (intro j hj; match j, hj with | 0, _ => exact hs _ (by decide +kernel) | 1, _ => exact hs _ (by decide +kernel) | 2, _ => exact hs _ (by decide +kernel) | 3, _ => exact hs _ (by decide +kernel) | 4, _ => exact hs _ (by decide +kernel) | 5, _ => exact hs _ (by decide +kernel) | j + 6, h => exact absurd h (by simp [lenJ])) | 3, _ => (intro j hj; match j, hj with | 0, _ => exact hs _ (by decide +kernel) | 1, _ => exact hs _ (by decide +kernel) | 2, _ => exact hs _ (by decide +kernel) | 3, _ => exact hs _ (by decide +kernel) | j + 4, h => exact absurd h (by simp [lenJ])) | 4, _ => (intro j hj; match j, hj with | 0, _ => exact hs _ (by decide +kernel) | 1, _ => exact hs _ (by decide +kernel) | 2, _ => exact hs _ (by decide +kernel) | 3, _ => exact hs _ (by decide +kernel) | 4, _ => exact hs _ (by decide +kernel) | j + 5, h => exact absurd h (by simp [lenJ])) | j + 5, h => exact absurd h (by omega))
    (fun i j hi hj hij => by match i, hi, j, hj with | 0, _, 0, _ => exact absurd rfl hij | 0, _, 1, _ => exact Or.inl (hs _ (by decide +kernel)) | 0, _, 2, _ => exact Or.inl (hs _ (by decide +kernel)) | 0, _, 3, _ => exact Or.inl (hs _ (by decide +kernel)) | 0, _, 4, _ => exact Or.inl (hs _ (by decide +kernel)) | 1, _, 0, _ => exact Or.inr (hs _ (by decide +kernel)) | 1, _, 1, _ => exact absurd rfl hij | 1, _, 2, _ => exact Or.inl (hs _ (by decide +kernel)) | 1, _, 3, _ => exact Or.inl (hs _ (by decide +kernel)) | 1, _, 4, _ => exact Or.inl (hs _ (by decide +kernel)) | 2, _, 0, _ => exact Or.inr (hs _ (by decide +kernel)) | 2, _, 1, _ => exact Or.inr (hs _ (by decide +kernel)) | 2, _, 2, _ => exact absurd rfl hij | 2, _, 3, _ => exact Or.inl (hs _ (by decide +kernel)) | 2, _, 4, _ => exact Or.inl (hs _ (by decide +kernel)) | 3, _, 0, _ => exact Or.inr (hs _ (by decide +kernel)) | 3, _, 1, _ => exact Or.inr (hs _ (by decide +kernel)) | 3, _, 2, _ => exact Or.inr (hs _ (by decide +kernel)) | 3, _, 3, _ => exact absurd rfl hij | 3, _, 4, _ => exact Or.inl (hs _ (by decide +kernel)) | 4, _, 0, _ => exact Or.inr (hs _ (by decide +kernel)) | 4, _, 1, _ => exact Or.inr (hs _ (by decide +kernel)) | 4, _, 2, _ => exact Or.inr (hs _ (by decide +kernel)) | 4, _, 3, _ => exact Or.inr (hs _ (by decide +kernel)) | 4, _, 4, _ => exact absurd rfl hij | i + 5, h, _, _ => exact absurd h (by omega) | _, _, j + 5, h => exact absurd h (by omega))
    hA
  refine ⟨fun k => if k = 0 then c0 else if k = 1 then c1 else if k = 2 then c2 else if k = 3 then c3 else if k = 4 then c4 else if k = 5 then c5 else if k = 6 then c6 else if k = 7 then c7 else c8, fun k => if k = 0 then i0 else if k = 1 then i1 else if k = 2 then i2 else if k = 3 then i3 else if k = 4 then i4 else if k = 5 then i5 else if k = 6 then i6 else if k = 7 then i7 else i8, fun k => if k = 0 then a0 else if k = 1 then a1 else if k = 2 then a2 else a3, adK, adV, ⟨⟨?_, ?_⟩, ?_⟩, hSE, ?_, ?_, ?_⟩
  · intro k q hq
    match k, hq with
    | 0, hq => cases hq; exact k0
    | 1, hq => cases hq; exact k1
    | 2, hq => cases hq; exact k2
    | 3, hq => cases hq; exact k3
    | 4, hq => cases hq; exact k4
    | 5, hq => cases hq; exact k5
    | 6, hq => cases hq; exact k6
    | 7, hq => cases hq; exact k7
    | 8, hq => cases hq; exact k8
    | k + 9, hq => simp at hq
  · intro k q hq
    match k, hq with
    | 0, hq => cases hq; exact ⟨fun n z => ⟨fun k h => (by cases h), ka0, g0, co0, e0⟩, f0⟩
    | 1, hq => cases hq; exact ⟨fun n z => ⟨fun k h => (by cases h), ka1, g1, co1, e1⟩, f1⟩
    | 2, hq => cases hq; exact ⟨fun n z => ⟨fun k h => (by cases h), ka2, g2, co2, e2⟩, f2⟩
    | 3, hq => cases hq; exact ⟨fun n z => ⟨fun k h => (by cases h), ka3, g3, co3, e3⟩, f3⟩
    | k + 4, hq => simp at hq
  · exact List.forall_mem_cons.mpr ⟨va_Nw.of rfl (hts0 (.methodLinkNest RX1 11 yX5_init RX7) (tk_1 201 rfl)), List.forall_mem_cons.mpr ⟨va_Nw.of rfl (hts0 (.methodLinkNest RX1 63 yX7_hasBit RX7) (tk_3 161 rfl)), List.forall_mem_cons.mpr ⟨va_Nw.of rfl (hts0 (.methodLinkNest RX2 9 yX5_init RX7) (tk_1 152 rfl)), List.forall_mem_cons.mpr ⟨va_Nw.of rfl (hts0 (.methodLinkNest RX2 18 yX3_init RX7) (tk_1 154 rfl)), List.forall_mem_cons.mpr ⟨va_Nw.of rfl (hts0 (.methodLinkNest RX4 105 yX7_within RX7) (tk_2 200 rfl)), List.forall_mem_cons.mpr ⟨va_Nw.of rfl (hts0 (.methodLinkNest RX5 74 yX7_hasBit RX7) (tk_3 20 rfl)), List.forall_mem_cons.mpr ⟨va_Nw.of rfl (hts0 (.methodLinkNest RX6 66 yX7_hasBit RX7) (tk_3 226 rfl)), List.forall_mem_cons.mpr ⟨va_Nw.of rfl (hts0 (.methodLinkNest RX7 9 yX5_init RX7) (tk_1 27 rfl)), List.forall_mem_cons.mpr ⟨va_Nw.of rfl (hts0 (.methodLinkNest RX7 18 yX3_init RX7) (tk_1 133 rfl)), List.forall_mem_cons.mpr ⟨va_Nw.of rfl (hts0 (.methodLinkNest RX7 25 yX2_init RX7) (tk_1 147 rfl)), List.forall_mem_cons.mpr ⟨va_Nw.of rfl (hts0 (.methodLinkNest RX7 35 yX4_init RX7) (tk_1 169 rfl)), List.forall_mem_cons.mpr ⟨va_Nw.of rfl (hts0 (.methodLinkNest RX7 42 yX1_init RX7) (tk_1 196 rfl)), List.forall_mem_cons.mpr ⟨va_Nw.of rfl (hts0 (.methodLinkNest RX7 49 yX6_init RX7) (tk_1 209 rfl)), List.forall_mem_cons.mpr ⟨va_Nw.of rfl (hts0 (.methodLinkNest RX7 56 yX0_init RX7) (tk_1 239 rfl)), fun _ h => absurd h List.not_mem_nil⟩⟩⟩⟩⟩⟩⟩⟩⟩⟩⟩⟩⟩⟩
  · exact va_Zof (hts0 (.laysStatic "java/lang/String" "COMPACT_STRINGS" "Z") (tk_2 152 rfl)) (hts0 (.initialized "java/lang/String") (tk_1 10 rfl)) (va_eqi (hs _ (by decide +kernel))) hA
  · exact va_Zqof (hts0 (.laysStatic "jdk/internal/util/Preconditions" "SIOOBE_FORMATTER" "Ljava/util/function/BiFunction;") (tk_2 168 rfl)) (hts0 (.initialized "jdk/internal/util/Preconditions") (tk_1 12 rfl)) (hs _ (by decide +kernel)) hA
  · intro i hi
    match i, hi with
    | 0, _ => exact vk_R.of (hts0 (.stringRef "BackLoans$Text" 33 "chest") (tk_2 138 rfl)) (hev 0 (by decide))
    | 1, _ => exact vk_R.of (hts0 (.stringRef "BackLoans$Text" 49 "rate") (tk_2 209 rfl)) (hev 1 (by decide))
    | 2, _ => exact vk_R.of (hts0 (.stringRef "BackLoans$Text" 54 "person") (tk_2 214 rfl)) (hev 2 (by decide))
    | 3, _ => exact vk_R.of (hts0 (.stringRef "BackLoans$Text" 62 "loan") (tk_2 220 rfl)) (hev 3 (by decide))
    | 4, _ => exact vk_R.of (hts0 (.stringRef "BackLoans$Text" 70 "offer") (tk_2 226 rfl)) (hev 4 (by decide))
    | j + 5, h => exact absurd h (by omega)
