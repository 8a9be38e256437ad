/-! Large pictures: cut and put together by their addresses. -/
theorem va_P.l {D : va_G} {cl : List vw_C} {w1 w2 : va_W} {H : Heap} (h : va_P D cl (w1 ++ w2) H) : va_P D cl w1 H := fun k q hk => by
  obtain ⟨n, hn⟩ := List.getElem?_of_mem (List.mem_append_left w2 (List.mem_of_getElem? hk))
  exact h n q hn
theorem va_P.r {D : va_G} {cl : List vw_C} {w1 w2 : va_W} {H : Heap} (h : va_P D cl (w1 ++ w2) H) : va_P D cl w2 H := fun k q hk => by
  obtain ⟨n, hn⟩ := List.getElem?_of_mem (List.mem_append_right w1 (List.mem_of_getElem? hk))
  exact h n q hn
/-- n addresses, apart, in A -/
def adI (A : Nat → Prop) (ad : Nat → Nat) (n : Nat) : Prop := (∀ i j, i < n → j < n → ad i = ad j → i = j) ∧ ∀ i, i < n → A (ad i)
theorem map_at {ws : va_W} {is : List Nat} {ad : Nat → Nat} (he : ws.map Prod.fst = is.map ad) {k : Nat} {q : Nat × va_E} (hk : ws[k]? = some q) : ∃ i, is[k]? = some i ∧ q.1 = ad i := by
  have h1 : (ws.map Prod.fst)[k]? = some q.1 := by rw [List.getElem?_map, hk]; rfl
  rw [he, List.getElem?_map] at h1
  cases hi : is[k]? with
  | none => rw [hi] at h1; cases h1
  | some i => rw [hi] at h1; exact ⟨i, rfl, (Option.some.inj h1).symm⟩
theorem adI_of {A : Nat → Prop} {ad : Nat → Nat} {n : Nat} {ws : va_W} (hD : va_D A ws) (he : ws.map Prod.fst = (List.range n).map ad) : adI A ad n := by
  have hlen : ws.length = n := by have := congrArg List.length he; simpa using this
  have at_ : ∀ i, i < n → ∃ q, ws[i]? = some q ∧ q.1 = ad i := by
    intro i hi
    have hlt : i < ws.length := by omega
    refine ⟨ws[i], List.getElem?_eq_getElem hlt, ?_⟩
    obtain ⟨j, hj, e⟩ := map_at he (List.getElem?_eq_getElem hlt)
    rw [List.getElem?_range hi] at hj
    cases hj
    exact e
  refine ⟨fun i j hi hj h => ?_, fun i hi => ?_⟩
  · obtain ⟨p, hp, ep⟩ := at_ i hi
    obtain ⟨q, hq, eq⟩ := at_ j hj
    exact hD.1 i j p q hp hq (by rw [ep, eq, h])
  · obtain ⟨p, hp, ep⟩ := at_ i hi
    rw [← ep]
    exact hD.2 i p hp
theorem vD_adr {A : Nat → Prop} {ad : Nat → Nat} {n : Nat} {ws : va_W} (hJ : adI A ad n) (is : List Nat) (hn : va_nd is = true) (hlt : is.all (fun i => decide (i < n)) = true) (he : ws.map Prod.fst = is.map ad) : va_D A ws := by
  have hl : ∀ i ∈ is, i < n := fun i hi => of_decide_eq_true (List.all_eq_true.mp hlt i hi)
  refine ⟨fun i j p q hp hq e => ?_, fun k q hq => ?_⟩
  · obtain ⟨a, ha, ea⟩ := map_at he hp
    obtain ⟨b, hb, eb⟩ := map_at he hq
    have hab : a = b := hJ.1 a b (hl a (List.mem_of_getElem? ha)) (hl b (List.mem_of_getElem? hb)) (by rw [← ea, ← eb, e])
    subst hab
    exact va_nd_inj _ hn _ _ _ ha hb
  · obtain ⟨a, ha, ea⟩ := map_at he hq
    rw [ea]
    exact hJ.2 a (hl a (List.mem_of_getElem? ha))
theorem vF_adr {A : Nat → Prop} {wc : va_W} {H0 H : Heap} {locs : List Loc} (hD : va_D A wc) (hS : va_S A H0 H locs) (hA : ∀ q, H0.size ≤ q → A q) : ∀ q, va_A wc H.size q → A q := by
  rintro q (⟨k, e, hk⟩ | hq)
  · exact hD.2 k _ hk
  · exact hA q (Nat.le_trans hS.1 hq)
theorem vP_keep {A : Nat → Prop} {ad : Nat → Nat} {n : Nat} {D : va_G} {cl : List vw_C} {wr wc : va_W} {H H1 : Heap} (hJ : adI A ad n) (hP : va_P D cl wr H) (ir ic : List Nat) (er : wr.map Prod.fst = ir.map ad) (ec : wc.map Prod.fst = ic.map ad) (hlt : (ir ++ ic).all (fun i => decide (i < n)) = true) (hdis : ir.all (fun i => !ic.contains i) = true) (hk : ∀ q : Nat, q < H.size → ¬ va_A wc H.size q → H1[q]? = H[q]?) : va_P D cl wr H1 := by
  have hl : ∀ i ∈ ir ++ ic, i < n := fun i hi => of_decide_eq_true (List.all_eq_true.mp hlt i hi)
  intro k q hq
  have h0 := hP k q hq
  obtain ⟨i, hi, ei⟩ := map_at er hq
  have him := List.mem_of_getElem? hi
  have hlt' : q.1 < H.size := h0.lt
  refine h0.kept (hk q.1 hlt' ?_)
  rintro (⟨k2, e2, hk2⟩ | hge)
  · obtain ⟨j, hj, ej⟩ := map_at ec hk2
    have hjm := List.mem_of_getElem? hj
    have hij : i = j := hJ.1 i j (hl i (List.mem_append_left _ him)) (hl j (List.mem_append_right _ hjm)) (by rw [← ei, ← ej])
    have := List.all_eq_true.mp hdis i him
    subst hij
    simp [hjm] at this
  · omega
/-- the addresses of the class's 62 cells and of the model's 12 -/
def adr (g a : Nat → Nat) : Nat → Nat := fun i => if i < 62 then g i else a (i - 62)
