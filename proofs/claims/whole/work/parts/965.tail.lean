/-- the law behind its two constructors, if the pure law holds -/
theorem law_tail {p : Program} {l : Launch} {e : Env} {s : State} {m : MethodId} {below : List Frame} {meth : Method} {c : Code} {b L : Nat} {xs : Nat → Int32} {dC : Nat → ClassId} {dI : Nat → Nat → Nat} {cs : Nat → ClassId} {adK adV g a : Nat → Nat} {A : Nat → Prop} {H : Heap} {locs : List Loc} {ls : Array Slot} (C : CallFix p m c cL_law 4 s #[Value.ref b] wsL_law RL) (G : GE dC dI cs s) (hX : va_X b L xs s s.heap) (hbl : b < s.heap.size) (hbA : ¬ A b) (hE : SE adK adV A s s.heap) (hA : ∀ q : Nat, s.heap.size ≤ q → A q) (hAe : A = (fun q : Nat => s.heap.size ≤ q)) (hx : p.tables.exec = Jvm.exec) (hb : c.code = code) (hr : meth.sig.returnType = ret) (hlocks : meth.locks = false) (hl : lv_has ls 4 [(3, .int 0), (2, .ref (a 0)), (1, .ref (g 0)), (0, .ref b)]) (hP : va_P (dC, dI) vwCl (wAll cs g a C0 T0 P0 0 T0 P0 0 T0 P0 X0 T0 L0 K0 M0) H) (hD : va_D A (wAll cs g a C0 T0 P0 0 T0 P0 0 T0 P0 X0 T0 L0 K0 M0)) (hS : va_S A s.heap H locs) (hpure : l_L_law_18 L xs FU 0 C0 T0 P0 0 T0 P0 0 T0 P0 X0 T0 L0 K0 M0 = some 1) : W p l e room_1 s m #[Value.ref b] below meth c H locs 74 3434 (lw_Z below #[Value.ref b] s) (F0 m 18 ls []) := by
  have hJ : adI A (adr g a) 74 := adI_of hD rfl
  have hR : RTw p l e s m #[Value.ref b] below meth c (lw_Z below #[Value.ref b] s) A 1 := by
    intro H locs pc ls r dd h hS
    cases h
    refine va_forget (fun q hq => ?_) ?_
    · have := hS.2.2 q hq
      rw [hAe] at this
      exact this
    · exact lw_ret hx hb hr hlocks dd
  exact w_L_law_18 C G hX hbl hbA hE hJ hA hR FU 0 C0 T0 P0 0 T0 P0 0 T0 P0 X0 T0 L0 K0 M0 H _ ls (lv_sub hl [3, 2, 1, 0] rfl) hP hS hpure
