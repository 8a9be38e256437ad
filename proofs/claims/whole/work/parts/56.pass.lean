/-! PURE: two loops beside one another; months that pass; the first lack. -/
theorem itr_two {σ τ β γ : Type} {B : (σ → Option β) → σ → Option β} {C : (τ → Option γ) → τ → Option γ} (I : Nat → σ → τ → Prop) (P : Option β → Option γ → Prop) (N : Nat)
    (hs : ∀ i z w, i ≤ N → I i z w → (i < N ∧ ∃ z' w', I (i + 1) z' w' ∧ (∀ k, B k z = k z') ∧ ∀ k, C k w = k w') ∨ (∃ r s, P r s ∧ (∀ k, B k z = r) ∧ ∀ k, C k w = s)) : ∀ (n i : Nat) (z : σ) (w : τ), I i z w → i ≤ N → N - i < n → P (itr B n z) (itr C n w) := by
  intro n
  induction n with
  | zero => intro i z w _ _ h; exact absurd h (Nat.not_lt_zero _)
  | succ n ih =>
    intro i z w hi hN hn
    rcases hs i z w hN hi with ⟨hlt, z', w', hz', hB, hC⟩ | ⟨r, s, hr, hB, hC⟩
    · show P (B (itr B n) z) (C (itr C n) w)
      rw [hB, hC]
      exact ih (i + 1) z' w' hz' hlt (by omega)
    · show P (B (itr B n) z) (C (itr C n) w)
      rw [hB, hC]
      exact hr
theorem foldN_2 {f : Nat → AT → AT} {A : AT} {j : Nat} (hf : ∀ i X, (f i X).2 j = X.2 j) : ∀ n, (foldN f n A).2 j = A.2 j
  | 0 => rfl
  | n + 1 => by show (f n (foldN f n A)).2 j = _; rw [hf, foldN_2 hf n]
theorem giveN_2 {l : Nat} {A : AT} {j : Nat} (h2 : j ≠ 2) (h6 : j ≠ 6) (h7 : j ≠ 7) : (giveN l A).2 j = A.2 j := by
  unfold giveN
  split
  · split
    · rw [setA_j h6]
    · split
      · rw [setA_j h6, setA_j h7, setS_2, setA_j h2]
      · rw [setA_j h7, setS_2, setA_j h2]
  · rfl
theorem payN_2 {l : Nat} {A : AT} {j : Nat} (h2 : j ≠ 2) (h6 : j ≠ 6) : (payN l A).2 j = A.2 j := by
  unfold payN
  split
  · split
    · rw [setS_2]
    · rw [setA_j h6, setA_j h2, setS_2]
  · rfl
theorem monthN_2 {dry : Nat → Bool} {A : AT} {j : Nat} (h2 : j ≠ 2) (h6 : j ≠ 6) (h7 : j ≠ 7) : (monthN dry A).2 j = A.2 j := by
  show (paysN (givesN (peopleN dry A))).2 j = _
  unfold paysN givesN peopleN
  rw [foldN_2 (fun _ _ => payN_2 h2 h6), foldN_2 (fun _ _ => giveN_2 h2 h6 h7), foldN_2 (f := stP dry) (fun _ _ => setA_j h2)]
theorem aheadN_2 {A : AT} {j : Nat} (h2 : j ≠ 2) (h6 : j ≠ 6) (h7 : j ≠ 7) : ∀ n, (aheadN n A).2 j = A.2 j
  | 0 => rfl
  | n + 1 => by show (monthN dry0 (aheadN n A)).2 j = _; rw [monthN_2 h2 h6 h7]; exact aheadN_2 h2 h6 h7 n
theorem manyN_same {A A' : AT} {how : Nat} : ∀ n, (∀ l, l < n → (A'.2 6 l = how ↔ A.2 6 l = how)) → manyN A' how n = manyN A how n
  | 0, _ => rfl
  | n + 1, h => by
    show manyN A' how n + (if A'.2 6 n = how then 1 else 0) = manyN A how n + (if A.2 6 n = how then 1 else 0)
    rw [manyN_same n (fun l hl => h l (by omega))]
    have q := h n (by omega)
    by_cases c : A.2 6 n = how
    · rw [if_pos c, if_pos (q.mpr c)]
    · rw [if_neg c, if_neg (fun x => c (q.mp x))]
theorem manyN_set {A : AT} {how l : Nat} (hA : A.2 6 l ≠ how) : ∀ n, manyN (setA A 6 l how) how n = manyN A how n + (if l < n then 1 else 0)
  | 0 => by rw [if_neg (Nat.not_lt_zero _)]; rfl
  | n + 1 => by
    show manyN (setA A 6 l how) how n + (if (setA A 6 l how).2 6 n = how then 1 else 0) = manyN A how n + (if A.2 6 n = how then 1 else 0) + _
    rw [manyN_set hA n]
    by_cases e : n = l
    · subst e
      rw [setA_same, if_pos rfl, if_neg hA, if_neg (by omega), if_pos (by omega)]
    · rw [setA_k e]
      by_cases c : l < n
      · rw [show (if l < n then 1 else 0) = (1 : Nat) from if_pos c, show (if l < n + 1 then 1 else 0) = (1 : Nat) from if_pos (by omega)]; omega
      · rw [show (if l < n then 1 else 0) = (0 : Nat) from if_neg c, show (if l < n + 1 then 1 else 0) = (0 : Nat) from if_neg (by omega)]; omega
theorem giveN_had {l k : Nat} {A : AT} : ((giveN l A).2 6 k = 1 ↔ A.2 6 k = 1) := by
  unfold giveN
  split
  · rename_i h0
    split
    · by_cases e : k = l
      · subst e; rw [setA_same, h0]; omega
      · rw [setA_k e]
    · split
      · by_cases e : k = l
        · subst e; rw [setA_same, h0]; omega
        · rw [setA_k e, setA_j (by omega), setS_2, setA_j (by omega)]
      · rw [setA_j (by omega), setS_2, setA_j (by omega)]
  · rfl
theorem many_pay {A : AT} (n : Nat) : ∀ k, k ≤ n → manyN (foldN payN k A) 1 n = manyN A 1 n + paidsN k A
  | 0, _ => rfl
  | k + 1, hk => by
    show manyN (payN k (foldN payN k A)) 1 n = manyN A 1 n + (paidsN k A + paidN k (foldN payN k A))
    rw [← Nat.add_assoc, ← many_pay n k (by omega)]
    generalize foldN payN k A = Y
    unfold payN paidN
    by_cases h3 : Y.2 6 k = 3
    · rw [if_pos h3]
      by_cases hc : Y.1 0 < wholeN Y k
      · rw [if_pos hc, if_neg (by omega)]
        exact manyN_same n (fun l _ => Iff.rfl)
      · rw [if_neg hc, if_pos (by omega), manyN_set (by rw [setA_j (by omega), setS_2, h3]; omega), if_pos (by omega)]
        rw [manyN_same (A := Y) n (fun l _ => by rw [setA_j (by omega), setS_2])]
    · rw [if_neg h3, if_neg (fun h => h3 h.1)]; rfl
theorem many_month {dry : Nat → Bool} {A : AT} : manyN (monthN dry A) 1 (A.1 5) = manyN A 1 (A.1 5) + paidsN (A.1 5) (givesN (peopleN dry A)) := by
  have e5 : (givesN (peopleN dry A)).1 5 = A.1 5 := by rw [givesN_1 (by omega), peopleN_1]
  have e1 : manyN (monthN dry A) 1 (A.1 5) = manyN (paysN (givesN (peopleN dry A))) 1 (A.1 5) := manyN_same _ (fun l _ => Iff.rfl)
  rw [e1]
  unfold paysN
  rw [e5, many_pay (A.1 5) (A.1 5) (Nat.le_refl _)]
  congr 1
  refine manyN_same _ (fun l _ => ?_)
  have g : ∀ n, ((foldN giveN n (peopleN dry A)).2 6 l = 1 ↔ (peopleN dry A).2 6 l = 1) := by
    intro n
    induction n with
    | zero => exact Iff.rfl
    | succ n ih => exact Iff.trans giveN_had ih
  have p : (peopleN dry A).2 6 = A.2 6 := by unfold peopleN; exact foldN_2 (f := stP dry) (fun _ _ => setA_j (by omega)) _
  rw [← p]
  exact g _
section
variable {b : Nat} {B : Nat → Int32} {N : Tw} {P : Ps} {I1 : Int32} {T1 : Tw} {P1 : Ps} {I2 : Int32} {T2 : Tw} {P2 : Ps} {X : Tx} {K : Ch} {M : Ms}
theorem q_pass (h : SR b B N P I1 T1 P1 I2 T2 P2 X K M) (hb : b < 100000) (x : Int32) : ∃ r B' N' P' M', f_X7_pass x B N P = some (r, B', N', P') ∧ f_X8_pass x M = some (r, M') ∧ SR (b + 96) B' N' P' I1 T1 P1 I2 T2 P2 X K M' := by
  obtain ⟨A, H, rt, rm, oa, rp, rmp, op⟩ := h.2.1
  unfold f_X7_pass f_X8_pass
  rcases in_cases x 1 12 (by omega) (by omega) with ⟨n, hn0, hn, e, e8, e7⟩ | ⟨e8, e7⟩
  · rw [show f_X7_within x 1 12 = some 1 from e7, show f_X8_in x 1 12 = some 1 from e8]
    subst e
    simp only [bn_s, if_neg i10]
    have s0 := s_howMany rt oa (how := 1) (by omega)
    rw [show (1 : Int32) = nI 1 from rfl, s0]
    simp only [bn_s, lett_d]
    generalize hbef : manyN A 1 (A.1 5) = bef
    have a5 := oa.2.2.2.2.2.1
    have hb8 : bef ≤ 8 := by rw [← hbef]; exact Nat.le_trans (manyN_le _ _ _) a5
    unfold l_X7_pass_26 l_X8_pass_19
    have start : M = tN M (M.2.2 0) := tN_self.symm
    have key := itr_two (B := fun (k : Int32 × Tw × Ps → Option (Int32 × (Nat → Int32) × Tw × Ps)) (z : Int32 × Tw × Ps) => f_X7_pass_26 (nI n) (nI bef) z.1 B z.2.1 z.2.2 (fun x3 N P => k (x3, N, P)) (fun Nz Pz => f_X7_pass_56 (nI bef) B Nz Pz)) (C := fun (k : Int32 × Int32 × Ms → Option (Int32 × Ms)) (z : Int32 × Int32 × Ms) => f_X8_pass_19 (nI n) z.1 z.2.1 z.2.2 (fun x2 x3 M => k (x2, x3, M)))
      (fun i z w => ∃ N' P' t A' H', z = (nI i, N', P') ∧ w = (nI (manyN A' 1 (A'.1 5) - bef), nI i, tN M t) ∧ bef ≤ manyN A' 1 (A'.1 5) ∧ rT A' N' ∧ rM A' t ∧ okA (b + 8 * i) A' ∧ rPast H' P' ∧ rMPast H' t ∧ okP (b + 8 * i) A' H')
      (fun r s => ∃ v B' N' P' M', r = some (v, B', N', P') ∧ s = some (v, M') ∧ SR (b + 96) B' N' P' I1 T1 P1 I2 T2 P2 X K M') n ?_ FU 0 (nI 0, N, P) (nI 0, nI 0, M) ⟨N, P, M.2.2 0, A, H, rfl, by rw [hbef, Nat.sub_self, tN_self], by omega, rt, rm, oa, rp, rmp, op⟩ (Nat.zero_le _) (by rw [FU_d]; omega)
    · exact key
    · rintro i z w hi ⟨N', P', t, A', H', rfl, rfl, hle, rt', rm', oa', rp', rmp', op'⟩
      have a5' := oa'.2.2.2.2.2.1
      have hm8 := manyN_le A' 1 (A'.1 5)
      by_cases hlt : i < n
      · left
        have rm0 : rM A' ((tN M t).2.2 0) := by rw [tN_0]; exact rm'
        have rmp0 : rMPast H' ((tN M t).2.2 0) := by rw [tN_0]; exact rmp'
        obtain ⟨P2', t2, A2, H2, k1, k2, ⟨ea, er⟩, rt2, rm2, oa2, rp2, rmp2, op2⟩ := keep_both (M := tN M t) rt' rm0 oa' rp' rmp0 op'
        obtain ⟨T3, l1, l2⟩ := s_liveMonth rt2 oa2 (by omega) dry0_of
        obtain ⟨r3, m1, m2, m3⟩ := m_month rm2 oa2 (by omega) dry0_of
        have e6 : ∀ n, manyN A2 1 n = manyN A' 1 n := fun n => manyN_same n (fun l _ => by rw [er 6 (by omega)])
        have e5 : (monthN dry0 A2).1 5 = A'.1 5 := by rw [monthN_1 (by omega) (by omega) (by omega), ea]
        have e52 : A2.1 5 = A'.1 5 := by rw [ea]
        have mm : manyN (monthN dry0 A2) 1 (A'.1 5) = manyN A' 1 (A'.1 5) + paidsN (A2.1 5) (givesN (peopleN dry0 A2)) := by
          have := many_month (dry := dry0) (A := A2)
          rw [e6, e52] at this
          rw [this, e52]
        refine ⟨hlt, (nI (i + 1), T3, P2'), (nI (manyN (monthN dry0 A2) 1 ((monthN dry0 A2).1 5) - bef), nI (i + 1), tN M r3.2), ⟨T3, P2', r3.2, monthN dry0 A2, H2, rfl, rfl, ?_, l2, m3, ?_, rp2, ?_, ?_⟩, fun k => ?_, fun k => ?_⟩
        · rw [e5, mm]; omega
        · exact okA_mono (okA_monthN oa2) (by omega)
        · exact rMPast_eq rmp2 (rest_eq rm2 m3 (monthN_2 (by omega) (by omega) (by omega)))
        · refine okP_mono op2 (by omega) ?_ ?_ (fun l _ => by rw [monthN_2 (by omega) (by omega) (by omega)])
          · rw [monthN_1 (by omega) (by omega) (by omega)]; exact Nat.le_refl _
          · rw [monthN_1 (by omega) (by omega) (by omega)]; exact Nat.le_refl _
        · show f_X7_pass_26 (nI n) (nI bef) (nI i) B N' P' _ _ = _
          unfold f_X7_pass_26
          rw [if_neg (by rw [leN (by omega) (by omega)]; omega), k1, l1]
          simp only [bn_s, lett_d]
          rw [show (1 : Int32) = nI 1 from rfl, nI_add]
        · show f_X8_pass_19 (nI n) (nI (manyN A' 1 (A'.1 5) - bef)) (nI i) (tN M t) _ = _
          unfold f_X8_pass_19
          rw [if_neg (by rw [leN (by omega) (by omega)]; omega), k2]
          simp only [bn_s, tN_0, m1, lett_d]
          have hv : manyN A' 1 (A'.1 5) - bef + paidsN (A2.1 5) (givesN (peopleN dry0 A2)) = manyN (monthN dry0 A2) 1 ((monthN dry0 A2).1 5) - bef := by rw [e5, mm]; omega
          have hM : (((tN (tN M t) t2).1, (tN (tN M t) t2).2.1, va_up (tN (tN M t) t2).2.2 0 r3.2) : Ms) = tN M r3.2 := by
            unfold tN
            simp only [vu_vu]
          rw [hM, m2, nI_add, hv, show (1 : Int32) = nI 1 from rfl, nI_add]
      · right
        have e : i = n := by omega
        subst e
        have hN := s_howMany rt' oa' (how := 1) (by omega)
        refine ⟨some (nI (manyN A' 1 (A'.1 5) - bef), B, N', P'), some (nI (manyN A' 1 (A'.1 5) - bef), tN M t), ⟨_, _, _, _, _, rfl, rfl, SR_now h (by omega) ⟨A', H', rt', rm', okA_mono oa' (by omega), rp', rmp', okP_mono op' (by omega) (Nat.le_refl _) (Nat.le_refl _) (fun _ _ => rfl)⟩⟩, fun k => ?_, fun k => ?_⟩
        · show f_X7_pass_26 (nI i) (nI bef) (nI i) B N' P' _ _ = _
          unfold f_X7_pass_26
          rw [if_pos (Int32.le_refl _)]
          show f_X7_pass_56 (nI bef) B N' P' = _
          unfold f_X7_pass_56
          rw [show (1 : Int32) = nI 1 from rfl, hN]
          simp only [bn_s]
          rw [subN hle]
        · show f_X8_pass_19 (nI i) _ (nI i) (tN M t) _ = _
          unfold f_X8_pass_19
          rw [if_pos (Int32.le_refl _)]
  · rw [show f_X7_within x 1 12 = some 0 from e7, show f_X8_in x 1 12 = some 0 from e8]
    simp only [bn_s, if_true, bad7, bad8]
    exact ⟨_, _, _, _, _, rfl, rfl, SR_bad h⟩
end
