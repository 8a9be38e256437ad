/-! PURE: bits. -/
def bitI (x : Int32) (l : Nat) : Bool := x.toBitVec.getLsbD l
theorem sh_k : ∀ l : Fin 32, ((nI l.val &&& 31 : Int32).toBitVec.smod 32) = BitVec.ofNat 32 l.val := by decide +kernel
theorem shr_d (x : Int32) {l : Nat} (hl : l < 32) : (x >>> (nI l &&& 31)).toBitVec = x.toBitVec.sshiftRight l := by
  have k := sh_k ⟨l, hl⟩
  rw [Int32.toBitVec_shiftRight, k]
  show x.toBitVec.sshiftRight (BitVec.ofNat 32 l).toNat = _
  rw [BitVec.toNat_ofNat, Nat.mod_eq_of_lt (by omega)]
theorem shl_d (x : Int32) {l : Nat} (hl : l < 32) : (x <<< (nI l &&& 31)).toBitVec = x.toBitVec <<< l := by
  have k := sh_k ⟨l, hl⟩
  rw [Int32.toBitVec_shiftLeft, k]
  show x.toBitVec <<< (BitVec.ofNat 32 l).toNat = _
  rw [BitVec.toNat_ofNat, Nat.mod_eq_of_lt (by omega)]
theorem shr_bit (x : Int32) {l : Nat} (hl : l < 32) : ((x >>> (nI l &&& 31)) &&& 1) = if bitI x l then 1 else 0 := by
  apply Int32.toBitVec_inj.mp
  rw [Int32.toBitVec_and, shr_d x hl]
  have h1 : (1 : Int32).toBitVec = 1#32 := by decide
  have h0 : (0 : Int32).toBitVec = 0#32 := by decide
  rw [h1]
  unfold bitI
  cases hb : x.toBitVec.getLsbD l
  · rw [if_neg (by decide), h0]
    apply BitVec.eq_of_getLsbD_eq
    intro i hi
    rw [BitVec.getLsbD_and, BitVec.getLsbD_one, BitVec.getLsbD_sshiftRight]
    by_cases e : i = 0
    · subst e; simp [hl]; exact hb
    · simp [e]
  · rw [if_pos rfl, h1]
    apply BitVec.eq_of_getLsbD_eq
    intro i hi
    rw [BitVec.getLsbD_and, BitVec.getLsbD_one, BitVec.getLsbD_sshiftRight]
    by_cases e : i = 0
    · subst e; simp [hb, hl]
    · simp [e]
theorem bit_or (x y : Int32) (l : Nat) : bitI (x ||| y) l = (bitI x l || bitI y l) := by
  unfold bitI; rw [Int32.toBitVec_or, BitVec.getLsbD_or]
theorem bit_and (x y : Int32) (l : Nat) : bitI (x &&& y) l = (bitI x l && bitI y l) := by
  unfold bitI; rw [Int32.toBitVec_and, BitVec.getLsbD_and]
theorem bit_not (x : Int32) {l : Nat} (hl : l < 32) : bitI (x ^^^ -1) l = !bitI x l := by
  unfold bitI
  have h : (-1 : Int32).toBitVec = BitVec.allOnes 32 := by decide
  rw [Int32.toBitVec_xor, h, BitVec.getLsbD_xor, BitVec.getLsbD_allOnes]
  simp [hl]
theorem bit_one {k l : Nat} (hk : k < 32) (hl : l < 32) : bitI (1 <<< (nI k &&& 31)) l = decide (l = k) := by
  unfold bitI
  rw [shl_d 1 hk]
  have h1 : (1 : Int32).toBitVec = 1#32 := by decide
  rw [h1, BitVec.getLsbD_shiftLeft, BitVec.getLsbD_one]
  by_cases e : l = k
  · subst e; simp [hl]
  · by_cases q : l < k
    · simp [q, e]
    · have : ¬ (l - k = 0) := by omega
      simp [q, this, e]
theorem bit_zero (l : Nat) : bitI 0 l = false := by
  unfold bitI
  have h0 : (0 : Int32).toBitVec = 0#32 := by decide
  rw [h0]; exact BitVec.getLsbD_zero
theorem bit_nI {v l : Nat} (hl : l < 32) : bitI (nI v) l = v.testBit l := by
  unfold bitI
  show (BitVec.ofNat 32 v).getLsbD l = _
  rw [BitVec.getLsbD_ofNat]
  simp [hl]
theorem s_bit (x : Int32) {l : Nat} (hl : l < 32) : f_X7_hasBit x (nI l) = some (if bitI x l then 1 else 0) := by
  unfold f_X7_hasBit
  rw [shr_bit x hl]
  cases bitI x l
  · rfl
  · rfl
theorem dry_bit (x : Int32) : dryOf x (fun p => bitI x p) := by
  intro p hp
  show (((x >>> (nI p &&& 31)) &&& 1 = 1) ↔ bitI x p = true)
  rw [shr_bit x (by omega)]
  cases bitI x p
  · exact ⟨fun h => absurd h (by decide), fun h => absurd h (by decide)⟩
  · exact ⟨fun _ => rfl, fun _ => rfl⟩
