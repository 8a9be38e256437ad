/-! PURE: wills, asked. -/
theorem cnt_pos {v n : Nat} (hn : n ≤ 6) (hv : v < 2 ^ n) (h0 : v ≠ 0) : 1 ≤ cntN v n := by
  have key : ∀ (n : Fin 7) (v : Fin 64), v.val < 2 ^ n.val → v.val ≠ 0 → 1 ≤ cntN v.val n.val := by decide +kernel
  have h64 : (2 : Nat) ^ n ≤ 2 ^ 6 := Nat.pow_le_pow_right (by omega) hn
  exact key ⟨n, by omega⟩ ⟨v, by have : (2 : Nat) ^ 6 = 64 := rfl; omega⟩ hv h0
section
variable {b : Nat} {B : Nat → Int32} {N : Tw} {P : Ps} {I1 : Int32} {T1 : Tw} {P1 : Ps} {I2 : Int32} {T2 : Tw} {P2 : Ps} {X : Tx} {K : Ch} {M : Ms}
theorem SR_fr (h : SR b B N P I1 T1 P1 I2 T2 P2 X K M) {M' : Ms} (hf : fr M M') : SR (b + 96) B N P I1 T1 P1 I2 T2 P2 X K M' := SR_96 (SR_frame h (by rw [hf.1]) hf.2.1 (fun r hr => hf.2.2 r (by omega)))
theorem will_do (h : SR b B N P I1 T1 P1 I2 T2 P2 X K M) {A : AT} {L : Wl} {p v : Nat} {z : Int32} (rt : rT A N) (rm : rM A (M.2.2 0)) (oa : okA b A) (hp : p < A.1 4) (hv : v < 2 ^ A.1 4) (h0 : v ≠ 0) (h3 : onesN v ≤ 3) (hz : -1 ≤ z) : ∃ r L' M', (bn (f_X6_share (nI p) (nI v) L N) fun r87 => if z = -1 then some ((r87.1 0), (B, r87)) else (if (r87.1 1) ≤ z then some (-5, (B, r87)) else (bn (f_X6_heirOf z r87) fun r119 => some (r119, (B, r87))))) = some (r, B, L') ∧ l_X8_will_67 (nI p) (nI v) z (fun x4 Mz => f_X8_will_106 (nI p) z x4 Mz) FU (nI 0) (nI 0) M = some (r, M') ∧ SR (b + 96) B N P I1 T1 P1 I2 T2 P2 X K M' := by
  have a4 := oa.2.2.2.2.1
  have a5 := oa.2.2.2.2.2.1
  have hc1 : 1 ≤ cntQ v.testBit (A.1 4) := by rw [cntQ_bit]; exact cnt_pos a4 hv h0
  have hc3 : cntQ v.testBit (A.1 4) ≤ 3 := by rw [cntQ_bit]; exact Nat.le_trans (cnt_le (by omega)) h3
  have hk8 : cntQ (leavesB A p) (A.1 5) ≤ 8 := Nat.le_trans (cntQ_le _ _) a5
  generalize hhe : cntQ v.testBit (A.1 4) = hN at *
  generalize hke : cntQ (leavesB A p) (A.1 5) = k at *
  have al : ∀ j, j < k → arrQ (leavesB A p) (A.1 5) j < A.1 5 := fun j hj => arrQ_lt (A.1 5) j (by rw [hke]; exact hj)
  obtain ⟨wt, hwt⟩ : ∃ wt : Nat → Nat, wt = fun j => if j < k then A.2 4 (arrQ (leavesB A p) (A.1 5) j) * A.2 7 (arrQ (leavesB A p) (A.1 5) j) else 0 := ⟨_, rfl⟩
  have wj : ∀ j, j < k → wt j = A.2 4 (arrQ (leavesB A p) (A.1 5) j) * A.2 7 (arrQ (leavesB A p) (A.1 5) j) := fun j hj => by rw [hwt]; exact if_pos hj
  have hw : ∀ j, wt j ≤ 1188 := by
    intro j
    by_cases hj : j < k
    · rw [wj j hj]
      obtain ⟨l1, l2, l3, l4, l5, l6, l7, l8⟩ := oa.2.2.2.2.2.2.2.2.1 _ (al j hj)
      exact pg_le l3 (by omega)
    · rw [hwt]; show (if j < k then _ else 0) ≤ 1188; rw [if_neg hj]; omega
  obtain ⟨La, ea, la1, la2⟩ := s_parts (L := L) rt oa hp
  obtain ⟨Lb, eb, lb1, lb2, lb3, lb4⟩ := s_heirs (L := La) rt oa h3
  rw [hke] at la1 la2
  rw [hhe] at lb1 lb2
  -- the class's will before the ways
  obtain ⟨L0, hL0⟩ : ∃ L0 : Wl, L0 = (upd (upd Lb.1 0 (-1)) 3 (nI 0), Lb.2) := ⟨_, rfl⟩
  have hL : LW hN k wt (arrQ v.testBit (A.1 4)) L0 := by
    rw [hL0]
    refine ⟨?_, ?_, fun j hj => ?_, fun j hj => ?_⟩
    · exact (show upd (upd Lb.1 0 (-1)) 3 (nI 0) 1 = Lb.1 1 by rw [up_n (by omega), up_n (by omega)]).trans (lb3.trans la1)
    · exact (show upd (upd Lb.1 0 (-1)) 3 (nI 0) 2 = Lb.1 2 by rw [up_n (by omega), up_n (by omega)]).trans lb1
    · show Lb.2 0 j = _
      rw [lb4, la2 j hj, wj j hj]
    · exact lb2 j hj
  have q0 : L0.1 0 = -1 := by rw [hL0]; exact (show upd (upd Lb.1 0 (-1)) 3 (nI 0) 0 = -1 by rw [up_n (by omega), up_s])
  have q3 : L0.1 3 = nI 0 := by rw [hL0]; exact (show upd (upd Lb.1 0 (-1)) 3 (nI 0) 3 = nI 0 from up_s)
  have sw := s_ways (h := hN) (k := k) hL.1 hL.2.1 hk8
  have share : ∀ L', l_X6_share_31 (nI (hN ^ k)) N FU (nI 0) L0 = some L' → f_X6_share (nI p) (nI v) L N = some L' := by
    intro L' e
    unfold f_X6_share
    rw [ea, bn_s, eb, bn_s, lett_d, lett_d]
    show bn (f_X6_countWays (upd (upd Lb.1 0 (-1)) 3 (nI 0), Lb.2)) (fun r23 => lett 0 fun x5_29 => l_X6_share_31 r23 N FU x5_29 (upd (upd Lb.1 0 (-1)) 3 (nI 0), Lb.2)) = _
    rw [← hL0, sw, bn_s, lett_d]
    exact e
  refine m_heirs (A := A) (b := b) (Q := fun s => ∃ r L' M', (bn (f_X6_share (nI p) (nI v) L N) fun r87 => if z = -1 then some ((r87.1 0), (B, r87)) else (if (r87.1 1) ≤ z then some (-5, (B, r87)) else (bn (f_X6_heirOf z r87) fun r119 => some (r119, (B, r87))))) = some (r, B, L') ∧ s = some (r, M') ∧ SR (b + 96) B N P I1 T1 P1 I2 T2 P2 X K M') rm oa (fun M1 f1 g1 => ?_)
  rw [hhe] at g1 ⊢
  unfold f_X8_will_106
  rw [lett_d, lett_d]
  refine m_parts (A := A) (b := b) (M0 := M) (Q := fun s => ∃ r L' M', (bn (f_X6_share (nI p) (nI v) L N) fun r87 => if z = -1 then some ((r87.1 0), (B, r87)) else (if (r87.1 1) ≤ z then some (-5, (B, r87)) else (bn (f_X6_heirOf z r87) fun r119 => some (r119, (B, r87))))) = some (r, B, L') ∧ s = some (r, M') ∧ SR (b + 96) B N P I1 T1 P1 I2 T2 P2 X K M') rm oa hp f1 (fun M2 f2 g7 g9 => ?_)
  rw [hke] at g9 ⊢
  have hM : MW A hN k (arrQ (leavesB A p) (A.1 5)) wt (arrQ v.testBit (A.1 4)) M2 := ⟨by rw [f2.2.2 0 (by omega)]; exact rm, fun j hj => ⟨g9 j hj, al j hj, wj j hj⟩, fun j hj => by rw [g7]; exact g1 j hj⟩
  unfold f_X8_will_190
  rw [lett_d, lett_d, lett_d]
  obtain ⟨L', M', mo, f, w1, w2, hL', e0, e3, hf, hM', hfr⟩ := ways_both (T := N) (x3 := z) (M0 := M) (K261 := fun x6 x7 Mz => f_X8_will_261 z (nI hN) (nI k) x6 x7 Mz) hL q0 q3 hM f2 oa hc1 hc3 hk8 hw
  rw [show (0 : Int32) = nI 0 from rfl, w2, share L' w1, bn_s]
  obtain ⟨r8, m1, m2, m3, m4, m5, m6⟩ := m_leastBy (w := f) hM' oa hc1 hc3 hk8 hw hf
  have hfe : fr M r8.2 := ⟨m3.1.trans hfr.1, m3.2.1.trans hfr.2.1, fun r hr => (m3.2.2 r hr).trans (hfr.2.2 r hr)⟩
  unfold f_X8_will_261
  rw [m1, bn_s, e0, hL'.1]
  by_cases c1 : z = -1
  · rw [if_pos c1, if_pos c1]
    exact ⟨_, _, _, rfl, rfl, SR_fr h hfe⟩
  · rw [if_neg c1, if_neg c1]
    by_cases c2 : nI k ≤ z
    · rw [if_pos c2, if_pos c2]
      exact ⟨_, _, _, rfl, rfl, SR_fr h hfe⟩
    · rw [if_neg c2, if_neg c2]
      have hz0 : ¬ z < nI 0 := by
        intro hlt
        have t1 := Int32.le_iff_toInt_le.mp hz
        have t2 := Int32.lt_iff_toInt_lt.mp hlt
        rw [nI_toInt (by omega)] at t2
        have t3 : (-1 : Int32).toInt = -1 := by decide
        rw [t3] at t1
        apply c1
        apply Int32.toInt_inj.mp
        rw [t3]
        omega
      have hz1 : ¬ nI (k - 1) < z := by
        intro hlt
        apply c2
        have t2 := Int32.lt_iff_toInt_lt.mp hlt
        rw [nI_toInt (by omega)] at t2
        apply Int32.le_iff_toInt_le.mpr
        rw [nI_toInt (by omega)]
        omega
      obtain ⟨q, q1, q2, eq⟩ := nI_range (lo := 0) (hi := k - 1) (by omega) hz0 hz1 (by omega)
      have hk0 : 0 < k := by
        apply Nat.pos_of_ne_zero
        intro e
        apply c2
        rw [e, eq, leN (by omega) (by omega)]
        omega
      have hqk : q < k := by omega
      have hm : restN hN f (k - 1 - q) % hN < hN := Nat.mod_lt _ (by omega)
      subst eq
      rw [s_heirOf hL' e3 hc1 hc3 hk8 hf hqk, bn_s, gi_n (by omega) (by omega), clN (by omega), m6 q hqk, gi_n (by omega) (by omega), clN (by omega), m4, hM'.2.2 _ hm]
      exact ⟨_, _, _, rfl, rfl, SR_fr h hfe⟩
theorem q_will (h : SR b B N P I1 T1 P1 I2 T2 P2 X K M) (L : Wl) (x y z : Int32) : ∃ r B' L' M', f_X7_will x y z B N L = some (r, B', L') ∧ f_X8_will x y z M = some (r, M') ∧ SR (b + 96) B' N P I1 T1 P1 I2 T2 P2 X K M' := by
  obtain ⟨A, H, rt, rm, oa, rp, rmp, op⟩ := h.2.1
  have a4 := oa.2.2.2.2.1
  have d4 := rt.1 4 (by omega)
  have c3 : (M.2.2 0) 3 = nI (A.1 4) := rm.2.1 4 (by omega)
  have bad : ∃ r B' L' M', f_X7_will_47 x y z B N L = some (r, B', L') ∧ f_X8_will_39 M = some (r, M') ∧ SR (b + 96) B' N P I1 T1 P1 I2 T2 P2 X K M' := by
    unfold f_X7_will_47 f_X7_will_48 f_X8_will_39
    rw [if_pos rfl, bad7, bn_s, badAs8, bn_s]
    exact ⟨_, _, _, _, rfl, rfl, SR_bad h⟩
  obtain ⟨p1, p2⟩ := pow_le (n := A.1 4) (by omega)
  have pw := pow_n (n := A.1 4) (by omega)
  have top : (1 : Int32) <<< (nI (A.1 4) &&& 31) - 1 = nI (2 ^ A.1 4 - 1) := by rw [pw]; exact subN p1
  unfold f_X7_will f_X8_will
  rcases person_cases rt rm oa x with ⟨p, hp, e, e8, e7⟩ | ⟨e8, e7⟩
  · rw [e7, e8, bn_s, bn_s, if_neg i10, if_neg i10, d4, show (3 : Int32) = nI 3 from rfl, gi_n (by omega) (by omega), clN (j := 3) (by omega), c3, top]
    rcases in_cases y 0 (2 ^ A.1 4 - 1) (by omega) (by omega) with ⟨v, _, hv, f, f8, f7⟩ | ⟨f8, f7⟩
    · rw [show f_X7_within y 0 (nI (2 ^ A.1 4 - 1)) = some 1 from f7, show f_X8_in y 0 (nI (2 ^ A.1 4 - 1)) = some 1 from f8, bn_s, bn_s, if_neg i10, if_neg i10]
      subst e f
      have ho := onesN_le v
      rw [s_count (show v < 256 by omega), m_ones (show v < 256 by omega), bn_s, bn_s]
      have q3 : (nI 3 < nI (onesN v)) = (3 < onesN v) := ltN (by omega) (by omega)
      by_cases c : 3 < onesN v
      · rw [if_pos (q3.mpr c), if_pos (q3.mpr c)]; exact bad
      · rw [if_neg (fun x => c (q3.mp x)), if_neg (fun x => c (q3.mp x))]
        by_cases cz : z < -1
        · rw [if_pos cz, if_neg (Int32.not_le.mpr cz)]; exact bad
        · rw [if_neg cz, if_pos (Int32.not_lt.mp cz)]
          unfold f_X7_will_48
          rw [if_neg i10]
          have zv : (nI v = 0) = (v = 0) := eqN (b := 0) (by omega) (by omega)
          by_cases c0 : v = 0
          · rw [if_pos (zv.mpr c0), if_pos (zv.mpr c0)]
            exact ⟨_, _, _, _, rfl, rfl, SR_96 h⟩
          · rw [if_neg (fun x => c0 (zv.mp x)), if_neg (fun x => c0 (zv.mp x)), s_bit (nI v) (by omega), shr_bit (nI v) (by omega), bn_s]
            cases bitI (nI v) p
            · rw [if_neg (show ¬ (false = true) by decide), if_pos rfl, if_neg (show ¬ (0 : Int32) = 1 by decide), lett_d, lett_d]
              obtain ⟨r, L', M', g1, g2, g3⟩ := will_do (L := L) (p := p) (v := v) (z := z) h rt rm oa hp (by omega) c0 (by omega) (Int32.not_lt.mp cz)
              exact ⟨r, B, L', M', g1, g2, g3⟩
            · rw [if_pos rfl, if_neg i10, if_pos rfl]
              exact ⟨_, _, _, _, rfl, rfl, SR_96 h⟩
    · rw [show f_X7_within y 0 (nI (2 ^ A.1 4 - 1)) = some 0 from f7, show f_X8_in y 0 (nI (2 ^ A.1 4 - 1)) = some 0 from f8, bn_s, bn_s, if_pos rfl, if_pos rfl]
      exact bad
  · rw [e7, e8, bn_s, bn_s, if_pos rfl, if_pos rfl]
    exact bad
end
