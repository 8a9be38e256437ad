abbrev vwCl : List vw_C := [(RX0, TX0, 3), (RX1, TX1, 1), (RX2, TX2, 3), (RX3, TX3, 2), (RX4, TX4, 6), (RX5, TX5, 17), (RX6, TX6, 7), (RX7, TX7, 11), (RX8, TX8, 20)]
/-! The pure side of the walks: options, guards, loops; the pictures of the cells. -/
def lett {α β : Type} (e : α) (k : α → β) : β := k e
theorem lett_s {α β : Type} {x e : α} {k : α → β} {r : β} (h : x = e) (hf : lett e k = r) : k x = r := by subst h; exact hf
def gi {β : Type} (i : Int32) (n : Nat) (k : Option β) : Option β := if i < 0 ∨ n ≤ i.toNatClampNeg then none else k
theorem gi_e {β : Type} {i : Int32} {n : Nat} {k : Option β} {r : β} (h : gi i n k = some r) : vp_in i n ∧ k = some r := by
  unfold gi at h
  split at h
  · cases h
  · exact ⟨by assumption, h⟩
def gz {β : Type} (y : Int32) (k : Option β) : Option β := if y = 0 then none else k
theorem gz_e {β : Type} {y : Int32} {k : Option β} {r : β} (h : gz y k = some r) : ¬ y = 0 ∧ k = some r := by
  unfold gz at h
  split at h
  · cases h
  · exact ⟨by assumption, h⟩
def gzl {β : Type} (y : Int64) (k : Option β) : Option β := if y = 0 then none else k
theorem gzl_e {β : Type} {y : Int64} {k : Option β} {r : β} (h : gzl y k = some r) : ¬ y = 0 ∧ k = some r := by
  unfold gzl at h
  split at h
  · cases h
  · exact ⟨by assumption, h⟩
def gc {β : Type} (sp dp n : Int32) (n0 n1 : Nat) (k : Option β) : Option β := if ¬ sp < 0 ∧ ¬ dp < 0 ∧ ¬ n < 0 ∧ sp.toNatClampNeg + n.toNatClampNeg ≤ n0 ∧ dp.toNatClampNeg + n.toNatClampNeg ≤ n1 then k else none
theorem gc_e {β : Type} {sp dp n : Int32} {n0 n1 : Nat} {k : Option β} {r : β} (h : gc sp dp n n0 n1 k = some r) : (¬ sp < 0 ∧ ¬ dp < 0 ∧ ¬ n < 0 ∧ sp.toNatClampNeg + n.toNatClampNeg ≤ n0 ∧ dp.toNatClampNeg + n.toNatClampNeg ≤ n1) ∧ k = some r := by
  unfold gc at h
  split at h
  · exact ⟨by assumption, h⟩
  · cases h
def bn {α β : Type} (m : Option α) (k : α → Option β) : Option β := m.bind k
theorem bn_e {α β : Type} {m : Option α} {k : α → Option β} {r : β} (h : bn m k = some r) : ∃ x, m = some x ∧ k x = some r := Option.bind_eq_some_iff.mp h
theorem it_t {α : Type} {c : Prop} [Decidable c] {a b r : α} (h : c) (hf : (if c then a else b) = r) : a = r := by rw [if_pos h] at hf; exact hf
theorem it_f {α : Type} {c : Prop} [Decidable c] {a b r : α} (h : ¬ c) (hf : (if c then a else b) = r) : b = r := by rw [if_neg h] at hf; exact hf
def itr {σ β : Type} (body : (σ → Option β) → σ → Option β) : Nat → σ → Option β
  | 0, _ => none
  | n + 1, z => body (itr body n) z
def FU : Nat := 20000
theorem st_nm {α β : Type} {D : va_G} {cl : List vw_C} {A : Nat → Prop} {H : Heap} {ws : α → va_W} (e : α) (hP : va_P D cl (ws e) H) (hD : va_D A (ws e)) {k : α → Option β} {res : β} (hf : lett e k = some res) : ∃ x, va_P D cl (ws x) H ∧ va_D A (ws x) ∧ k x = some res := ⟨e, hP, hD, hf⟩
abbrev Tw : Type := (Nat → Int32) × (Nat → Nat → Int32)
abbrev Ps : Type := Int32 × (Nat → Int32)
abbrev Tx : Type := (Nat → Int32) × (Nat → Int32)
abbrev Wl : Type := (Nat → Int32) × (Nat → Nat → Int32)
abbrev Ch : Type := (Nat → Int64) × (Nat → Int64)
abbrev Ms : Type := (Nat → Int32) × (Nat → Int64) × (Nat → Nat → Int32)
abbrev tyL (cs : Nat → ClassId) : List (ClassId × FieldType) := [(cs 0, .int), (cs 1, .long), (cs 2, .byte), (cs 3, .boolean)]
abbrev wA (cs : Nat → ClassId) (a n : Nat) (f : Nat → Int32) : va_W := [(a, .inl (cs 0, n, .inl f))]
abbrev wT (cs : Nat → ClassId) (a : Nat → Nat) (T : Tw) : va_W := [(a 0, .inr (5, [.int (T.1 0), .int (T.1 1), .int (T.1 2), .int (T.1 3), .int (T.1 4), .int (T.1 5), .int (T.1 6), .ref (a 1), .ref (a 2), .ref (a 3), .ref (a 4), .ref (a 5), .ref (a 6), .ref (a 7), .ref (a 8), .ref (a 9), .ref (a 10)])), (a 1, .inl (cs 0, 6, .inl (T.2 0))), (a 2, .inl (cs 0, 6, .inl (T.2 1))), (a 3, .inl (cs 0, 6, .inl (T.2 2))), (a 4, .inl (cs 0, 8, .inl (T.2 3))), (a 5, .inl (cs 0, 8, .inl (T.2 4))), (a 6, .inl (cs 0, 8, .inl (T.2 5))), (a 7, .inl (cs 0, 8, .inl (T.2 6))), (a 8, .inl (cs 0, 8, .inl (T.2 7))), (a 9, .inl (cs 0, 8, .inl (T.2 8))), (a 10, .inl (cs 0, 8, .inl (T.2 9)))]
abbrev wP (cs : Nat → ClassId) (a : Nat → Nat) (P : Ps) : va_W := [(a 0, .inr (3, [.int P.1, .ref (a 1)])), (a 1, .inl (cs 0, 280, .inl P.2))]
abbrev wX (cs : Nat → ClassId) (a : Nat → Nat) (X : Tx) : va_W := [(a 0, .inr (4, [.int (X.1 0), .ref (a 1), .int (X.1 1), .int (X.1 2), .int (X.1 3), .int (X.1 4)])), (a 1, .inl (cs 2, 150, .inl X.2))]
abbrev wW (cs : Nat → ClassId) (a : Nat → Nat) (L : Wl) : va_W := [(a 0, .inr (6, [.int (L.1 0), .int (L.1 1), .int (L.1 2), .int (L.1 3), .ref (a 1), .ref (a 2), .ref (a 3)])), (a 1, .inl (cs 0, 8, .inl (L.2 0))), (a 2, .inl (cs 0, 3, .inl (L.2 1))), (a 3, .inl (cs 0, 3, .inl (L.2 2)))]
abbrev wC (cs : Nat → ClassId) (a : Nat → Nat) (K : Ch) : va_W := [(a 0, .inr (0, [.long (K.1 0), .long (K.1 1), .ref (a 1)])), (a 1, .inl (cs 1, 13, .inr (.inl K.2)))]
abbrev wF (a b : Nat) : va_W := [(a, .inr (1, [.ref b]))]
abbrev wI (a t p : Nat) (k : Int32) : va_W := [(a, .inr (2, [.ref t, .ref p, .int k]))]
abbrev wB (g : Nat → Nat) (C : Nat → Int32) : va_W := [(g 0, .inr (7, [.ref (g 1), .ref (g 12), .ref (g 14), .ref (g 28), .ref (g 42), .ref (g 44), .ref (g 56), .ref (g 60), .int (C 0), .int (C 1), .int (C 2)]))]
abbrev wM (cs : Nat → ClassId) (a : Nat → Nat) (M : Ms) : va_W := [(a 0, .inr (8, [.ref (a 1), .ref (a 2), .ref (a 3), .ref (a 4), .ref (a 5), .ref (a 6), .ref (a 7), .int (M.1 0), .long (M.2.1 0), .long (M.2.1 1), .int (M.1 1), .int (M.1 2), .int (M.1 3), .int (M.1 4), .int (M.1 5), .int (M.1 6), .ref (a 8), .ref (a 9), .ref (a 10), .ref (a 11)])), (a 1, .inl (cs 0, 362, .inl (M.2.2 0))), (a 2, .inl (cs 0, 362, .inl (M.2.2 1))), (a 3, .inl (cs 0, 362, .inl (M.2.2 2))), (a 4, .inl (cs 0, 724, .inl (M.2.2 3))), (a 5, .inl (cs 3, 2, .inl (M.2.2 4))), (a 6, .inl (cs 0, 3, .inl (M.2.2 5))), (a 7, .inl (cs 0, 150, .inl (M.2.2 6))), (a 8, .inl (cs 0, 6, .inl (M.2.2 7))), (a 9, .inl (cs 0, 6, .inl (M.2.2 8))), (a 10, .inl (cs 0, 8, .inl (M.2.2 9))), (a 11, .inl (cs 0, 8, .inl (M.2.2 10)))]
/-- the links among nest mates that the tables tell -/
def nsL : List (String × Nat × MethodName × String) := [(RX1, 11, yX5_init, RX7), (RX1, 63, yX7_hasBit, RX7), (RX2, 9, yX5_init, RX7), (RX2, 18, yX3_init, RX7), (RX4, 105, yX7_within, RX7), (RX5, 74, yX7_hasBit, RX7), (RX6, 66, yX7_hasBit, RX7), (RX7, 9, yX5_init, RX7), (RX7, 18, yX3_init, RX7), (RX7, 25, yX2_init, RX7), (RX7, 35, yX4_init, RX7), (RX7, 42, yX1_init, RX7), (RX7, 49, yX6_init, RX7), (RX7, 56, yX0_init, RX7)]
/-- what holds of the machine throughout: classes, array classes, nest links -/
def GE (dC : Nat → ClassId) (dI : Nat → Nat → Nat) (cs : Nat → ClassId) (U : State) : Prop := va_K (dC, dI) vwCl (tyL cs) U ∧ ∀ q ∈ nsL, va_Nw (.methodLinkNest q.1 q.2.1 q.2.2.1 q.2.2.2) U
theorem GE.calling {dC : Nat → ClassId} {dI : Nat → Nat → Nat} {cs : Nat → ClassId} {U : State} {g : JFrame} {mk : MethodId} {a : Array Value} (h : GE dC dI cs U) : GE dC dI cs (U.calling g mk a) := ⟨va_K.moved (u := U) (U := U.calling g mk a) (Vm.Alike.refl U.vm) h.1, fun q hq => va_Nw.same rfl rfl (h.2 q hq)⟩
theorem GE.warm {dC : Nat → ClassId} {dI : Nat → Nat → Nat} {cs : Nat → ClassId} {s U : State} (hW : s.WarmedH U.vm) (h : GE dC dI cs s) : GE dC dI cs U := ⟨va_K.moved hW.alike h.1, fun q hq => va_Nw.warmM hW (h.2 q hq)⟩
section
variable {υ : Type} (p : Program) (l : Launch) (e : Env) (R : Room) (s : State) (m : MethodId) (args : Array Value) (below : List Frame) (meth : Method) (c : Code) (cc : ByteArray) (Q : State → Prop)
/-- what a return is worth: int, boolean, long, none, a reference; of a method that writes, and of one that doesn't -/
def RTi (D : va_G) (A : Nat → Prop) (Wd : υ → va_W) (res : Int32 × υ) : Prop := ∀ (H : Heap) (locs : List Loc) (pc : Nat) (ls : Array Slot) (r : Int32) (u : υ), decode cc pc = .ok (.ireturn, 1) → some (r, u) = some res → va_P D vwCl (Wd u) H → va_D A (Wd u) → va_S A s.heap H locs → W p l e R s m args below meth c H locs 0 0 Q (F0 m pc ls [.int r])
def RTz (D : va_G) (A : Nat → Prop) (Wd : υ → va_W) (res : Int32 × υ) : Prop := ∀ (H : Heap) (locs : List Loc) (pc : Nat) (ls : Array Slot) (r : Int32) (u : υ), decode cc pc = .ok (.ireturn, 1) → narrow .boolean (.int r) = .int r → some (r, u) = some res → va_P D vwCl (Wd u) H → va_D A (Wd u) → va_S A s.heap H locs → W p l e R s m args below meth c H locs 0 0 Q (F0 m pc ls [.int r])
def RTl (D : va_G) (A : Nat → Prop) (Wd : υ → va_W) (res : Int64 × υ) : Prop := ∀ (H : Heap) (locs : List Loc) (pc : Nat) (ls : Array Slot) (r : Int64) (u : υ), decode cc pc = .ok (.lreturn, 1) → some (r, u) = some res → va_P D vwCl (Wd u) H → va_D A (Wd u) → va_S A s.heap H locs → W p l e R s m args below meth c H locs 0 0 Q (F0 m pc ls [.long r])
def RTv (D : va_G) (A : Nat → Prop) (Wd : υ → va_W) (res : υ) : Prop := ∀ (H : Heap) (locs : List Loc) (pc : Nat) (ls : Array Slot) (u : υ), decode cc pc = .ok (.return_, 1) → some u = some res → va_P D vwCl (Wd u) H → va_D A (Wd u) → va_S A s.heap H locs → W p l e R s m args below meth c H locs 0 0 Q (F0 m pc ls [])
def RTr (D : va_G) (A : Nat → Prop) (Wd : υ → va_W) (a : Nat) (res : υ) : Prop := ∀ (H : Heap) (locs : List Loc) (pc : Nat) (ls : Array Slot) (u : υ), decode cc pc = .ok (.areturn, 1) → some u = some res → va_P D vwCl (Wd u) H → va_D A (Wd u) → va_S A s.heap H locs → W p l e R s m args below meth c H locs 0 0 Q (F0 m pc ls [.ref a])
def RPi (res : Int32) : Prop := ∀ (pc : Nat) (ls : Array Slot) (r : Int32), decode cc pc = .ok (.ireturn, 1) → some r = some res → W p l e R s m args below meth c s.heap [] 0 0 Q (F0 m pc ls [.int r])
def RPz (res : Int32) : Prop := ∀ (pc : Nat) (ls : Array Slot) (r : Int32), decode cc pc = .ok (.ireturn, 1) → narrow .boolean (.int r) = .int r → some r = some res → W p l e R s m args below meth c s.heap [] 0 0 Q (F0 m pc ls [.int r])
def RPl (res : Int64) : Prop := ∀ (pc : Nat) (ls : Array Slot) (r : Int64), decode cc pc = .ok (.lreturn, 1) → some r = some res → W p l e R s m args below meth c s.heap [] 0 0 Q (F0 m pc ls [.long r])
end
