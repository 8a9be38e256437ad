/-! PURE: wills: who has part, all ways. -/
def cntQ (q : Nat → Bool) : Nat → Nat
  | 0 => 0
  | n + 1 => cntQ q n + (if q n then 1 else 0)
def arrQ (q : Nat → Bool) : Nat → Nat → Nat
  | 0 => fun _ => 0
  | n + 1 => if q n then updN (arrQ q n) (cntQ q n) n else arrQ q n
theorem cntQ_le (q : Nat → Bool) : ∀ n, cntQ q n ≤ n
  | 0 => Nat.le_refl _
  | n + 1 => by have := cntQ_le q n; show cntQ q n + (if q n then 1 else 0) ≤ n + 1; split <;> omega
theorem cntQ_t {q : Nat → Bool} {n : Nat} (h : q n = true) : cntQ q (n + 1) = cntQ q n + 1 ∧ arrQ q (n + 1) = updN (arrQ q n) (cntQ q n) n := ⟨by show cntQ q n + (if q n then 1 else 0) = _; rw [if_pos h], if_pos h⟩
theorem cntQ_f {q : Nat → Bool} {n : Nat} (h : q n = false) : cntQ q (n + 1) = cntQ q n ∧ arrQ q (n + 1) = arrQ q n := ⟨by show cntQ q n + (if q n then 1 else 0) = _; rw [if_neg (by rw [h]; decide)]; rfl, if_neg (by rw [h]; decide)⟩
theorem arrQ_lt {q : Nat → Bool} : ∀ n j, j < cntQ q n → arrQ q n j < n
  | 0, _, h => absurd h (Nat.not_lt_zero _)
  | n + 1, j, h => by
    cases hq : q n
    · rw [(cntQ_f hq).1] at h
      rw [(cntQ_f hq).2]
      exact Nat.lt_succ_of_lt (arrQ_lt n j h)
    · rw [(cntQ_t hq).1] at h
      rw [(cntQ_t hq).2]
      show (if j = cntQ q n then n else arrQ q n j) < n + 1
      by_cases e : j = cntQ q n
      · rw [if_pos e]; omega
      · rw [if_neg e]; exact Nat.lt_succ_of_lt (arrQ_lt n j (by omega))
theorem cntQ_mono {q : Nat → Bool} (n : Nat) : ∀ d, cntQ q n ≤ cntQ q (n + d)
  | 0 => Nat.le_refl _
  | d + 1 => Nat.le_trans (cntQ_mono n d) (Nat.le_add_right _ _)
theorem arrQ_stay {q : Nat → Bool} (n : Nat) : ∀ d, cntQ q (n + d) = cntQ q n → arrQ q (n + d) = arrQ q n
  | 0, _ => rfl
  | d + 1, h => by
    have m1 := cntQ_mono (q := q) n d
    cases hq : q (n + d)
    · have e := cntQ_f hq
      show arrQ q (n + d + 1) = _
      rw [e.2]
      exact arrQ_stay n d (by have h' : cntQ q (n + d + 1) = cntQ q n := h; rw [e.1] at h'; exact h')
    · have e := cntQ_t hq
      have h' : cntQ q (n + d + 1) = cntQ q n := h
      rw [e.1] at h'
      omega
theorem cntQ_bit (v : Nat) : ∀ n, cntQ v.testBit n = cntN v n
  | 0 => rfl
  | n + 1 => by show cntQ v.testBit n + _ = cntN v n + _; rw [cntQ_bit v n]
/-- the loan is left to heirs -/
def leavesB (A : AT) (p l : Nat) : Bool := decide (A.2 6 l = 0 ∨ A.2 6 l = 2 ∨ A.2 6 l = 3) && decide (A.2 3 l = p)
theorem s_parts {A : AT} {T : Tw} {b p : Nat} {L : Wl} (rt : rT A T) (oa : okA b A) (hp : p < A.1 4) : ok (fun L' => L'.1 1 = nI (cntQ (leavesB A p) (A.1 5)) ∧ ∀ j, j < cntQ (leavesB A p) (A.1 5) → L'.2 0 j = nI (A.2 4 (arrQ (leavesB A p) (A.1 5) j) * A.2 7 (arrQ (leavesB A p) (A.1 5) j))) (f_X6_listParts (nI p) L T) := by
  have a4 := oa.2.2.2.2.1
  have a5 := oa.2.2.2.2.2.1
  have c5 := rt.1 5 (by omega)
  unfold f_X6_listParts
  rw [lett_d, lett_d]
  unfold l_X6_listParts_7
  refine itr_rel (fun i z => ∃ L', z = (nI i, L') ∧ L'.1 1 = nI (cntQ (leavesB A p) i) ∧ ∀ j, j < cntQ (leavesB A p) i → L'.2 0 j = nI (A.2 4 (arrQ (leavesB A p) i j) * A.2 7 (arrQ (leavesB A p) i j))) _ (A.1 5) ?_ FU 0 _ ⟨_, rfl, (show upd L.1 1 0 1 = nI 0 from up_s), fun j hj => absurd hj (Nat.not_lt_zero _)⟩ (Nat.zero_le _) (by rw [FU_d]; omega)
  rintro i z hi ⟨L', rfl, h1, h2⟩
  by_cases hlt : i < A.1 5
  · left
    have cl := cntQ_le (leavesB A p) i
    obtain ⟨l1, l2, l3, l4, l5, l6, l7, l8⟩ := oa.2.2.2.2.2.2.2.2.1 i hlt
    have c3 := rt.2.2.1 3 (by omega) (by omega) i hlt
    have c4 := rt.2.2.1 4 (by omega) (by omega) i hlt
    have c6 := rt.2.2.1 6 (by omega) (by omega) i hlt
    have c7 := rt.2.2.1 7 (by omega) (by omega) i hlt
    have body : ∀ kk : Int32 × Wl → Option Wl, f_X6_listParts_7 (nI p) (nI i) L' T (fun x3 L => kk (x3, L)) = if leavesB A p i then kk (nI (i + 1), (upd L'.1 1 (nI (cntQ (leavesB A p) i + 1)), va_up L'.2 0 (upd (L'.2 0) (cntQ (leavesB A p) i) (nI (A.2 4 i * A.2 7 i))))) else kk (nI (i + 1), L') := by
      intro kk
      unfold f_X6_listParts_7 f_X6_listParts_44 f_X6_listParts_49 f_X6_listParts_90 f_X5_givenPence
      simp (disch := omega) only [show (2 : Int32) = nI 2 from rfl, show (3 : Int32) = nI 3 from rfl, c5, leN, gi_n, clN, c3, c4, c6, c7, eqN, pk_mul, bn_s, lett_d, h1, if_neg i10, if_true]
      rw [if_neg (by omega), show nI i + 1 = nI (i + 1) from nI_add i 1, show nI (cntQ (leavesB A p) i) + 1 = nI (cntQ (leavesB A p) i + 1) from nI_add _ 1]
      have z0 : (nI (A.2 6 i) = 0) = (A.2 6 i = 0) := eqN (b := 0) (by omega) (by omega)
      by_cases s : A.2 6 i = 0 ∨ A.2 6 i = 2 ∨ A.2 6 i = 3
      · by_cases o : A.2 3 i = p
        · have hl : leavesB A p i = true := by unfold leavesB; simp [s, o]
          rw [hl, if_pos rfl]
          by_cases s0 : A.2 6 i = 0
          · rw [if_pos (z0.mpr s0), if_pos o]
          · rw [if_neg (fun x => s0 (z0.mp x))]
            by_cases s2 : A.2 6 i = 2
            · rw [if_pos s2, if_pos o]
            · rw [if_neg s2, if_pos (by omega), if_pos o]
        · have hl : leavesB A p i = false := by unfold leavesB; simp [o]
          rw [hl, if_neg (show ¬ (false = true) by decide)]
          by_cases s0 : A.2 6 i = 0
          · rw [if_pos (z0.mpr s0), if_neg o]
          · rw [if_neg (fun x => s0 (z0.mp x))]
            by_cases s2 : A.2 6 i = 2
            · rw [if_pos s2, if_neg o]
            · rw [if_neg s2, if_pos (by omega), if_neg o]
      · have hl : leavesB A p i = false := by unfold leavesB; simp [s]
        rw [hl, if_neg (show ¬ (false = true) by decide), if_neg (fun x => s (Or.inl (z0.mp x))), if_neg (fun x => s (Or.inr (Or.inl x))), if_neg (fun x => s (Or.inr (Or.inr x)))]
    cases hq : leavesB A p i
    · rw [hq] at body
      refine ⟨hlt, (nI (i + 1), L'), ⟨L', rfl, ?_, ?_⟩, body⟩
      · rw [(cntQ_f hq).1]; exact h1
      · rw [(cntQ_f hq).1, (cntQ_f hq).2]; exact h2
    · rw [hq] at body
      refine ⟨hlt, (nI (i + 1), (upd L'.1 1 (nI (cntQ (leavesB A p) i + 1)), va_up L'.2 0 (upd (L'.2 0) (cntQ (leavesB A p) i) (nI (A.2 4 i * A.2 7 i))))), ⟨_, rfl, ?_, fun j hj => ?_⟩, body⟩
      · rw [(cntQ_t hq).1]; exact (show upd L'.1 1 (nI (cntQ (leavesB A p) i + 1)) 1 = _ from up_s)
      · rw [(cntQ_t hq).1] at hj
        rw [(cntQ_t hq).2]
        show va_up L'.2 0 (upd (L'.2 0) (cntQ (leavesB A p) i) (nI (A.2 4 i * A.2 7 i))) 0 j = nI (A.2 4 (if j = cntQ (leavesB A p) i then i else arrQ (leavesB A p) i j) * A.2 7 (if j = cntQ (leavesB A p) i then i else arrQ (leavesB A p) i j))
        rw [vu_s]
        by_cases e : j = cntQ (leavesB A p) i
        · rw [if_pos e, e, up_s]
        · rw [if_neg e, up_n e]; exact h2 j (by omega)
  · right
    have e : i = A.1 5 := by omega
    subst e
    refine ⟨some L', ok_s ⟨h1, h2⟩, fun kk => ?_⟩
    show f_X6_listParts_7 (nI p) (nI (A.1 5)) L' T _ = _
    unfold f_X6_listParts_7
    rw [c5, if_pos (Int32.le_refl _)]
theorem s_heirs {A : AT} {T : Tw} {b v : Nat} {L : Wl} (rt : rT A T) (oa : okA b A) (h3 : onesN v ≤ 3) : ok (fun L' => L'.1 2 = nI (cntQ v.testBit (A.1 4)) ∧ (∀ j, j < cntQ v.testBit (A.1 4) → L'.2 1 j = nI (arrQ v.testBit (A.1 4) j)) ∧ L'.1 1 = L.1 1 ∧ L'.2 0 = L.2 0) (f_X6_listHeirs (nI v) L T) := by
  have a4 := oa.2.2.2.2.1
  have c4 := rt.1 4 (by omega)
  have c3 : ∀ n, n ≤ 8 → cntQ v.testBit n ≤ 3 := fun n hn => by rw [cntQ_bit]; exact Nat.le_trans (cnt_le hn) h3
  unfold f_X6_listHeirs
  rw [lett_d, lett_d]
  unfold l_X6_listHeirs_7
  refine itr_rel (fun i z => ∃ L', z = (nI i, L') ∧ L'.1 2 = nI (cntQ v.testBit i) ∧ (∀ j, j < cntQ v.testBit i → L'.2 1 j = nI (arrQ v.testBit i j)) ∧ L'.1 1 = L.1 1 ∧ L'.2 0 = L.2 0) _ (A.1 4) ?_ FU 0 _ ⟨_, rfl, (show upd L.1 2 0 2 = nI 0 from up_s), fun j hj => absurd hj (Nat.not_lt_zero _), (show upd L.1 2 0 1 = L.1 1 from up_n (by omega)), rfl⟩ (Nat.zero_le _) (by rw [FU_d]; omega)
  rintro i z hi ⟨L', rfl, h1, h2, h4, h5⟩
  by_cases hlt : i < A.1 4
  · have cl := c3 i (by omega)
    have g1 : ¬ T.1 4 ≤ nI i := by rw [c4, leN (by omega) (by omega)]; omega
    have le3 : ((3 : Int32) ≤ L'.1 2) = (3 ≤ cntQ v.testBit i) := by rw [h1]; exact leN (a := 3) (by omega) (by omega)
    by_cases full : 3 ≤ cntQ v.testBit i
    · right
      have m := cntQ_mono (q := v.testBit) i (A.1 4 - i)
      rw [show i + (A.1 4 - i) = A.1 4 by omega] at m
      have c4' := c3 (A.1 4) (by omega)
      have st := arrQ_stay (q := v.testBit) i (A.1 4 - i) (by rw [show i + (A.1 4 - i) = A.1 4 by omega]; omega)
      rw [show i + (A.1 4 - i) = A.1 4 by omega] at st
      have ce : cntQ v.testBit (A.1 4) = cntQ v.testBit i := by omega
      refine ⟨some L', ok_s ⟨by rw [ce]; exact h1, by rw [ce, st]; exact h2, h4, h5⟩, fun kk => ?_⟩
      show f_X6_listHeirs_7 (nI v) (nI i) L' T _ = _
      unfold f_X6_listHeirs_7
      rw [if_neg g1, if_pos (le3.mpr full)]
    · left
      have body : ∀ kk : Int32 × Wl → Option Wl, f_X6_listHeirs_7 (nI v) (nI i) L' T (fun x3 L => kk (x3, L)) = if v.testBit i then kk (nI (i + 1), (upd L'.1 2 (nI (cntQ v.testBit i + 1)), va_up L'.2 1 (upd (L'.2 1) (cntQ v.testBit i) (nI i)))) else kk (nI (i + 1), L') := by
        intro kk
        unfold f_X6_listHeirs_7 f_X6_listHeirs_51
        rw [if_neg g1, if_neg (fun x => full (le3.mp x)), s_bit (nI v) (by omega), bit_nI (by omega), bn_s, h1, gi_n (by omega) (by omega), clN (by omega)]
        simp only [lett_d]
        rw [h1, show nI i + 1 = nI (i + 1) from nI_add i 1, show nI (cntQ v.testBit i) + 1 = nI (cntQ v.testBit i + 1) from nI_add _ 1]
        cases v.testBit i
        · rw [if_neg (show ¬ (false = true) by decide), if_pos rfl, if_neg (show ¬ (false = true) by decide)]
        · rw [if_pos rfl, if_neg i10, if_pos rfl]
      cases hq : v.testBit i
      · rw [hq] at body
        refine ⟨hlt, (nI (i + 1), L'), ⟨L', rfl, ?_, ?_, h4, h5⟩, body⟩
        · rw [(cntQ_f hq).1]; exact h1
        · rw [(cntQ_f hq).1, (cntQ_f hq).2]; exact h2
      · rw [hq] at body
        refine ⟨hlt, (nI (i + 1), (upd L'.1 2 (nI (cntQ v.testBit i + 1)), va_up L'.2 1 (upd (L'.2 1) (cntQ v.testBit i) (nI i)))), ⟨_, rfl, ?_, fun j hj => ?_, ?_, ?_⟩, body⟩
        · rw [(cntQ_t hq).1]; exact (show upd L'.1 2 (nI (cntQ v.testBit i + 1)) 2 = _ from up_s)
        · rw [(cntQ_t hq).1] at hj
          rw [(cntQ_t hq).2]
          show va_up L'.2 1 (upd (L'.2 1) (cntQ v.testBit i) (nI i)) 1 j = nI (if j = cntQ v.testBit i then i else arrQ v.testBit i j)
          rw [vu_s]
          by_cases e : j = cntQ v.testBit i
          · rw [if_pos e, e, up_s]
          · rw [if_neg e, up_n e]; exact h2 j (by omega)
        · exact (show upd L'.1 2 (nI (cntQ v.testBit i + 1)) 1 = L'.1 1 from up_n (by omega)).trans h4
        · exact (show va_up L'.2 1 (upd (L'.2 1) (cntQ v.testBit i) (nI i)) 0 = L'.2 0 from vu_n (by omega)).trans h5
  · right
    have e : i = A.1 4 := by omega
    subst e
    refine ⟨some L', ok_s ⟨h1, h2, h4, h5⟩, fun kk => ?_⟩
    show f_X6_listHeirs_7 (nI v) (nI (A.1 4)) L' T _ = _
    unfold f_X6_listHeirs_7
    rw [c4, if_pos (Int32.le_refl _)]
theorem pow38 {h k : Nat} (h1 : 1 ≤ h) (h3 : h ≤ 3) (k8 : k ≤ 8) : 1 ≤ h ^ k ∧ h ^ k ≤ 6561 := by
  refine ⟨Nat.pow_pos (show 0 < h by omega), ?_⟩
  exact Nat.le_trans (Nat.pow_le_pow_left h3 k) (Nat.le_trans (Nat.pow_le_pow_right (by omega) k8) (by decide))
