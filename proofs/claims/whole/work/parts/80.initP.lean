/-! Constructors: an array's class is the one that the tables name; what a new object holds. -/
theorem va_tyq {D : va_G} {cl : List vw_C} {tys : List (ClassId × FieldType)} {s : State} (hK : va_K D cl tys s) {i j : Nat} {c1 c2 : ClassId} {ty : FieldType} (h1 : tys[i]? = some (c1, ty)) (h2 : tys[j]? = some (c2, ty)) (hp : refKind ty = false) : c1 = c2 := by
  have a := (hK.2 i _ h1).2
  have b := (hK.2 j _ h2).2
  cases ty <;> first | (exact Option.some.inj (Eq.trans (Eq.symm a) b)) | (simp [refKind] at hp)
theorem nwa {p : Program} {l : Launch} {e : Env} {R : Room} {s : State} {m : MethodId} {args : Array Value} {below : List Frame} {meth : Method} {c : Code} {H : Heap} {locs : List Loc} {cells slots : Nat} {Q : State → Prop} {cc : ByteArray} {pc : Nat} {ls : Array Slot} {rest : List Value} {D : va_G} {cl : List vw_C} {A : Nat → Prop} {tys : List (ClassId × FieldType)} {ws : va_W} {H0 : Heap} {atype : ArrayType} {ty : FieldType} {n : Int32} {N' : Nat} {a0 : vp_A} (t0 : Nat) {cA : ClassId} (hexec : p.tables.exec = Jvm.exec) (hb : c.code = cc) (harr : (Cond.arrayClass (newarray.typeOf atype)).before args s = true) (hty : newarray.typeOf atype = ty) (hK : va_K D cl tys s) (hP : va_P D cl ws H) (hD : va_D A ws) (hS : va_S A H0 H locs) (hA : ∀ q, H0.size ≤ q → A q) (ht : tys[t0]? = some (cA, ty)) (hp : refKind ty = false)
    (ha : ∀ cA : ClassId, vp_cell cA a0 = arrV cA N' (fun _ => defaultValue ty)) (hn : ¬ n < 0) (hN : n.toNatClampNeg = N') (hbytes : N' * componentBytes ty ≤ 536870912) (hcells : cells + 1 ≤ R.cells) (hslots : slots + N' ≤ R.slots) (hdg : decode cc pc = .ok (.newarray atype, 2))
    (kk : ∀ (q : Nat) (H1 : Heap), va_P D cl (ws ++ [(q, .inl (cA, a0))]) H1 → va_D A (ws ++ [(q, .inl (cA, a0))]) → va_S A H0 H1 locs → W p l e R s m args below meth c H1 locs (cells + 1) (slots + N') Q (F0 m (pc + 2) ls (.ref q :: rest))) : W p l e R s m args below meth c H locs cells slots Q (F0 m pc ls (.int n :: rest)) := by
  refine va_newa hexec hb harr hty hK hP hD hS hA ha hn hN hbytes hcells hslots hdg (fun q cA' H1 hK' hP' hD' hS' => ?_)
  have hlt : t0 < tys.length := (List.getElem?_eq_some_iff.mp ht).1
  have e : cA' = cA := va_tyq hK' (i := tys.length) (j := t0) (by simp) (by rw [List.getElem?_append_left hlt]; exact ht) hp
  subst e
  exact kk q H1 hP' hD' hS'
def T0 : Tw := (fun _ => 0, fun _ _ => 0)
def P0 : Ps := (0, fun _ => 0)
def X0 : Tx := (fun _ => 0, fun _ => 0)
def L0 : Wl := (fun _ => 0, fun _ _ => 0)
def K0 : Ch := (fun k => if k = 1 then 1 else 0, fun _ => 0)
def C0 : Nat → Int32 := fun _ => 0
def M0 : Ms := (fun _ => 0, fun k => if k = 1 then 1 else 0, fun _ _ => 0)
