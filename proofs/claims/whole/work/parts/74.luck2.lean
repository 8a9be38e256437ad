/-! PURE: the chance: the loops. -/
theorem m_lucky {u m p c n r : Nat} (hu : u ≤ 9999) (hm : m ≤ 99) (hp1 : 1 ≤ p) (hp : p ≤ 99) (hn : n ≤ 12) (hc : c ≤ 10) : f_X8_lucky (nI r) (nI u) (nI m) (nI p) (nI n) (nI c) = some (lN (luU u m p c r n)) := by
  have hnp : n * p ≤ 1188 := Nat.le_trans (Nat.mul_le_mul hn hp) (by omega)
  unfold f_X8_lucky
  rw [lett_d, lett_d]
  unfold l_X8_lucky_9
  refine itr_rel (fun i z => ∃ hs, z = (lN (luU u m p c r i), nI hs, nI i) ∧ hs ≤ 9999 ∧ (hs + i * p = u + cntN r i * m ∨ (n * p ≤ hs + i * p ∧ n * p ≤ u + cntN r i * m))) (fun s => s = some (lN (luU u m p c r n))) n ?_ FU 0 _ ⟨u, rfl, hu, Or.inl (by rw [Nat.zero_mul]; show u + 0 = u + 0 * m; rw [Nat.zero_mul])⟩ (Nat.zero_le _) (by rw [FU_d]; omega)
  rintro i z hi ⟨hs, rfl, h99, hE⟩
  by_cases hlt : i < n
  · have e1 : (i + 1) * p = i * p + p := Nat.succ_mul i p
    have e2 : (i + 1) * p ≤ n * p := Nat.mul_le_mul_right p hlt
    have e3 : cntN r (i + 1) * m = cntN r i * m + (if r.testBit i then m else 0) := by
      rw [cnt_s, Nat.add_mul]
      cases r.testBit i
      · rw [if_neg (show ¬ (false = true) by decide), if_neg (show ¬ (false = true) by decide), Nat.zero_mul]
      · rw [if_pos rfl, if_pos rfl, Nat.one_mul]
    have es := lu_s (u := u) (m := m) (p := p) (c := c) (r := r) (i := i)
    rw [e1, e3] at es
    -- what he has when means have come, or not
    obtain ⟨hx, ehx⟩ : ∃ hx, hx = if r.testBit i then min 9999 (hs + m) else hs := ⟨_, rfl⟩
    have body : ∀ kk : Int64 × Int32 × Int32 → Option Int64, f_X8_lucky_9 (nI r) (nI m) (nI p) (nI n) (nI c) (lN (luU u m p c r i)) (nI hs) (nI i) (fun x6 x8 x9 => kk (x6, x8, x9)) = if p ≤ hx then kk (lN (luU u m p c r i * (if r.testBit i then c else 10 - c)), nI (hx - p), nI (i + 1)) else some 0 := by
      intro kk
      unfold f_X8_lucky_9 f_X8_lucky_31 f_X8_lucky_53 f_X8_lucky_88
      rw [if_neg (by rw [leN (by omega) (by omega)]; omega), shr_bit (nI r) (by omega), bit_nI (by omega), show (9999 : Int32) = nI 9999 from rfl, nI_add, m_least _ _ (by omega) (by omega), bn_s]
      have tc : (nI c).toInt64 = lN c := toL (by omega)
      have t10 : ((10 : Int32) - nI c).toInt64 = lN (10 - c) := by rw [show (10 : Int32) - nI c = nI (10 - c) from subN hc]; exact toL (by omega)
      rw [tc, t10]
      cases hb : r.testBit i
      · rw [hb, if_neg (show ¬ (false = true) by decide)] at ehx
        rw [ehx]
        simp only [if_neg (show ¬ (false = true) by decide), if_neg (show ¬ (0 : Int32) = 1 by decide), if_true, lett_d]
        have le : (nI p ≤ nI hs) = (p ≤ hs) := leN (by omega) (by omega)
        by_cases q : p ≤ hs
        · rw [if_pos (le.mpr q), if_pos q, lNm, subN q, show nI i + 1 = nI (i + 1) from nI_add i 1]
        · rw [if_neg (fun x => q (le.mp x)), if_neg q]
      · rw [hb, if_pos rfl] at ehx
        rw [← ehx]
        simp only [if_true, if_neg i10, lett_d]
        have le : (nI p ≤ nI hx) = (p ≤ hx) := leN (by omega) (by omega)
        by_cases q : p ≤ hx
        · rw [if_pos (le.mpr q), if_pos q, lNm, subN q, show nI i + 1 = nI (i + 1) from nI_add i 1]
        · rw [if_neg (fun x => q (le.mp x)), if_neg q]
    have hx99 : hx ≤ 9999 := by rw [ehx]; split <;> omega
    have ec3 := e3
    -- alike alive
    have cases3 : (p ≤ hx ∧ i * p + p ≤ u + cntN r (i + 1) * m ∧ (hx - p + (i + 1) * p = u + cntN r (i + 1) * m ∨ (n * p ≤ hx - p + (i + 1) * p ∧ n * p ≤ u + cntN r (i + 1) * m))) ∨ (¬ p ≤ hx ∧ ¬ i * p + p ≤ u + cntN r (i + 1) * m) := by
      rw [e1, ec3]
      rw [e1] at e2
      generalize i * p = ip at *
      generalize n * p = np at *
      generalize cntN r i * m = cm at *
      cases hb : r.testBit i
      · rw [hb, if_neg (show ¬ (false = true) by decide)] at ehx
        rw [if_neg (show ¬ (false = true) by decide)]
        omega
      · rw [hb, if_pos rfl] at ehx
        rw [if_pos rfl]
        omega
    rcases cases3 with ⟨q1, q2, q3⟩ | ⟨q1, q2⟩
    · left
      rw [ec3] at q2
      have el : luU u m p c r (i + 1) = luU u m p c r i * (if r.testBit i then c else 10 - c) := by rw [es, if_pos q2]
      refine ⟨hlt, (lN (luU u m p c r (i + 1)), nI (hx - p), nI (i + 1)), ⟨hx - p, rfl, by omega, q3⟩, fun kk => (body kk).trans ?_⟩
      rw [if_pos q1, el]
    · right
      rw [ec3] at q2
      have el : luU u m p c r (i + 1) = 0 := by rw [es, if_neg q2]
      have e0 := lu_0 el (n - (i + 1))
      rw [show i + 1 + (n - (i + 1)) = n by omega] at e0
      refine ⟨some 0, by rw [e0]; rfl, fun kk => (body kk).trans (if_neg q1)⟩
  · right
    have e : i = n := by omega
    subst e
    refine ⟨_, rfl, fun kk => ?_⟩
    show f_X8_lucky_9 (nI r) (nI m) (nI p) (nI i) (nI c) (lN (luU u m p c r i)) (nI hs) (nI i) _ = _
    unfold f_X8_lucky_9
    rw [if_pos (Int32.le_refl _)]
theorem w_gt {u m p c : Nat} : ∀ t j, t < j → wN u m p c t j = 0
  | 0, j, h => if_neg (by omega)
  | t + 1, j, h => by
    rw [w_s, w_gt t j (by omega), w_gt t (j - 1) (by omega), Nat.zero_mul, Nat.zero_mul]
    split
    · split <;> rfl
    · rfl
theorem ul_s {f : Nat → Int64} {k : Nat} {x : Int64} : vp_updL f k x k = x := if_pos rfl
theorem ul_n {f : Nat → Int64} {k j : Nat} {x : Int64} (h : j ≠ k) : vp_updL f k x j = f j := if_neg h
/-- the weights of one month more; d of them are done -/
def wRow (u m p c t d : Nat) (f : Nat → Int64) (q : Nat) : Int64 := if t + 2 - d ≤ q ∧ q ≤ t + 1 then lN (wN u m p c (t + 1) q) else f q
theorem s_weights {u m p c n t l : Nat} {T : Tw} {K0 : Ch} {x7 : Int64} {K171 : Ch → Option Ch} (hl : l < 8) (h4 : T.2 4 l = nI p) (hu : u ≤ 9999) (hm : m ≤ 99) (hp : p ≤ 99) (hc : c ≤ 10) (ht : t + 1 ≤ 12) (h0 : ∀ j, j ≤ t + 1 → K0.2 j = lN (wN u m p c t j)) : l_X0_giveToTheEnd_78 (nI l) (nI c) (nI n) (nI u) (nI m) x7 (nI (t + 1)) T K171 FU (nI (t + 1)) K0 = K171 (K0.1, wRow u m p c t (t + 2) K0.2) := by
  unfold l_X0_giveToTheEnd_78
  have start : (nI (t + 1), K0) = (fun d => (nI (t + 2 - d) - 1, ((K0.1, wRow u m p c t d K0.2) : Ch))) 0 := by
    have e : wRow u m p c t 0 K0.2 = K0.2 := by
      funext q
      unfold wRow
      rw [if_neg (by omega)]
    show (nI (t + 1), K0) = (nI (t + 1 + 1) - 1, ((K0.1, wRow u m p c t 0 K0.2) : Ch))
    rw [dec1, e]
  rw [start]
  refine itr_st (fun d => (nI (t + 2 - d) - 1, ((K0.1, wRow u m p c t d K0.2) : Ch))) _ (t + 2) ?_ ?_ FU 0 (by omega) (by rw [FU_d]; omega)
  · intro d kk hlt
    obtain ⟨j, hj⟩ : ∃ j, j = t + 1 - d := ⟨_, rfl⟩
    have ec : nI (t + 2 - d) - 1 = nI j := by rw [show t + 2 - d = j + 1 by omega]; exact dec1
    have ec2 : nI (t + 2 - (d + 1)) - 1 = nI j - 1 := by rw [show t + 2 - (d + 1) = j by omega]
    have lo : ∀ q, q ≤ j → wRow u m p c t d K0.2 q = lN (wN u m p c t q) := fun q hq => by
      unfold wRow
      rw [if_neg (by omega)]; exact h0 q (by omega)
    have next : vp_updL (wRow u m p c t d K0.2) j (lN (wN u m p c (t + 1) j)) = wRow u m p c t (d + 1) K0.2 := by
      funext q
      unfold vp_updL wRow
      by_cases e : q = j
      · rw [if_pos e, if_pos (by omega), e]
      · rw [if_neg e]
        by_cases r : t + 2 - d ≤ q ∧ q ≤ t + 1
        · rw [if_pos r, if_pos (by omega)]
        · rw [if_neg r, if_neg (by omega)]
    have jm : j * m ≤ 1188 := Nat.le_trans (Nat.mul_le_mul (show j ≤ 12 by omega) hm) (by omega)
    have tp : (t + 1) * p ≤ 1188 := Nat.le_trans (Nat.mul_le_mul (show t + 1 ≤ 12 by omega) hp) (by omega)
    have t10 : ((10 : Int32) - nI c).toInt64 = lN (10 - c) := by rw [show (10 : Int32) - nI c = nI (10 - c) from subN hc]; exact toL (by omega)
    have tc : (nI c).toInt64 = lN c := toL (by omega)
    generalize wRow u m p c t d K0.2 = W at lo next
    have step : ∀ br : Nat, f_X0_giveToTheEnd_104 (nI l) (nI c) (nI n) (nI u) (nI m) x7 (nI (t + 1)) (nI j) (lN br) (K0.1, W) T (fun x10 K => kk (x10, K)) = kk (nI j - 1, (K0.1, vp_updL W j (lN (if (t + 1) * p ≤ u + j * m then wN u m p c t j * (10 - c) + br else 0)))) := by
      intro br
      unfold f_X0_giveToTheEnd_104 f_X0_giveToTheEnd_131 f_X0_giveToTheEnd_164
      dsimp only
      rw [gi_n (by omega) (by omega), clN (by omega), h4, pk_mul, nI_add, pk_mul, t10, clN (by omega), lo j (by omega), lNm, lNa]
      simp only [if_true, if_neg i10]
      rw [gi_n (by omega) (by omega), gi_n (by omega) (by omega), lett_d, lett_d, lett_d, lett_d, dec2]
      have lt : (nI (u + j * m) < nI ((t + 1) * p)) = (u + j * m < (t + 1) * p) := ltN (by omega) (by omega)
      by_cases q : (t + 1) * p ≤ u + j * m
      · rw [if_neg (fun x => absurd (lt.mp x) (by omega)), if_pos q, gi_n (by omega) (by omega)]
      · rw [if_pos (lt.mpr (by omega)), if_neg q]
        rfl
    show f_X0_giveToTheEnd_78 (nI l) (nI c) (nI n) (nI u) (nI m) x7 (nI (t + 1)) (nI (t + 2 - d) - 1) (K0.1, W) T (fun x10 K => kk (x10, K)) K171 = kk (nI (t + 2 - (d + 1)) - 1, (K0.1, wRow u m p c t (d + 1) K0.2))
    unfold f_X0_giveToTheEnd_78
    rw [ec, ec2, ← next, if_neg (by rw [show (0 : Int32) = nI 0 from rfl, ltN (by omega) (by omega)]; omega)]
    by_cases z : j = 0
    · rw [if_pos (by rw [z]; exact Int32.le_refl _)]
      refine (step 0).trans ?_
      rw [w_s, if_neg (show ¬ 0 < j by omega)]
    · dsimp only
      rw [if_neg (by rw [show (0 : Int32) = nI 0 from rfl, leN (by omega) (by omega)]; omega), show nI j - 1 = nI (j - 1) from subN (b := 1) (by omega), gi_n (by omega) (by omega), clN (by omega), lo (j - 1) (by omega), tc, lNm]
      refine (step _).trans ?_
      rw [w_s, if_pos (show 0 < j by omega), show nI j - 1 = nI (j - 1) from subN (b := 1) (by omega)]
  · intro kk
    show f_X0_giveToTheEnd_78 (nI l) (nI c) (nI n) (nI u) (nI m) x7 (nI (t + 1)) (nI (t + 2 - (t + 2)) - 1) _ T _ _ = _
    unfold f_X0_giveToTheEnd_78
    rw [Nat.sub_self, if_pos neg_lt]
