/-! PURE: wills: the model's shares by a way. -/
/-- the model's rows below the seventh are as they were -/
def fr (M M' : Ms) : Prop := M'.1 = M.1 ∧ M'.2.1 = M.2.1 ∧ ∀ r, r ≤ 6 → M'.2.2 r = M.2.2 r
theorem fr_up {M M' : Ms} {r : Nat} {f : Nat → Int32} (h : fr M M') (hr : 7 ≤ r) : fr M (M'.1, M'.2.1, va_up M'.2.2 r f) := ⟨h.1, h.2.1, fun q hq => by show va_up M'.2.2 r f q = _; rw [vu_n (by omega)]; exact h.2.2 q hq⟩
theorem row_s {M : Ms} {r : Nat} {f : Nat → Int32} : ((M.1, M.2.1, va_up M.2.2 r f) : Ms).2.2 r = f := (vu_s : va_up M.2.2 r f r = f)
theorem row_n {M : Ms} {r q : Nat} {f : Nat → Int32} (h : q ≠ r) : ((M.1, M.2.1, va_up M.2.2 r f) : Ms).2.2 q = M.2.2 q := (vu_n h : va_up M.2.2 r f q = M.2.2 q)
theorem m_given {A : AT} {M : Ms} {b l : Nat} (rm : rM A (M.2.2 0)) (oa : okA b A) (hl : l < A.1 5) : f_X8_given (nI l) M = some (nI (A.2 4 l * A.2 7 l)) := by
  have a5 := oa.2.2.2.2.2.1
  have c4 : (M.2.2 0) (26 + 5 * l + 1) = nI (A.2 4 l) := rm.2.2.2.1 1 (by omega) l hl
  have c7 : (M.2.2 0) (26 + 5 * l + 4) = nI (A.2 7 l) := rm.2.2.2.1 4 (by omega) l hl
  unfold f_X8_given
  simp (disch := omega) only [litI, pk_mul, nI_add, gi_n, clN, c4, c7]
/-- the model's will -/
def MW (A : AT) (h k : Nat) (ln wt hr : Nat → Nat) (M : Ms) : Prop := rM A (M.2.2 0) ∧ (∀ j, j < k → M.2.2 9 j = nI (ln j) ∧ ln j < A.1 5 ∧ wt j = A.2 4 (ln j) * A.2 7 (ln j)) ∧ ∀ j, j < h → M.2.2 7 j = nI (hr j)
theorem m_leastBy {A : AT} {b h k w : Nat} {ln wt hr : Nat → Nat} {M : Ms} (hM : MW A h k ln wt hr M) (oa : okA b A) (h1 : 1 ≤ h) (h3 : h ≤ 3) (k8 : k ≤ 8) (hw : ∀ j, wt j ≤ 1188) (ww : w < 100000) : ok (fun r => r.1 = nI (leastN h k wt w) ∧ fr M r.2 ∧ r.2.2.2 7 = M.2.2 7 ∧ r.2.2.2 9 = M.2.2 9 ∧ ∀ q, q < k → r.2.2.2 10 q = nI (restN h w (k - 1 - q) % h)) (f_X8_leastBy (nI w) (nI h) (nI k) M) := by
  obtain ⟨rm, mL, mH⟩ := hM
  have a5 := oa.2.2.2.2.2.1
  unfold f_X8_leastBy
  rw [lett_d, show (0 : Int32) = nI 0 from rfl]
  unfold l_X8_leastBy_3
  refine itr_rel (fun i z => ∃ M', z = (nI i, M') ∧ fr M M' ∧ M'.2.2 7 = M.2.2 7 ∧ M'.2.2 9 = M.2.2 9 ∧ ∀ q, q < i → M'.2.2 8 q = nI 0) _ h ?_ FU 0 _ ⟨M, rfl, ⟨rfl, rfl, fun _ _ => rfl⟩, rfl, rfl, fun q hq => absurd hq (Nat.not_lt_zero _)⟩ (Nat.zero_le _) (by rw [FU_d]; omega)
  rintro i z hi ⟨M', rfl, hf, e7, e9, hG⟩
  by_cases hlt : i < h
  · left
    refine ⟨hlt, (nI (i + 1), (M'.1, M'.2.1, va_up M'.2.2 8 (upd (M'.2.2 8) i (nI 0)))), ⟨_, rfl, fr_up hf (by omega), ?_, ?_, fun q hq => ?_⟩, fun kk => ?_⟩
    · exact (row_n (by omega)).trans e7
    · exact (row_n (by omega)).trans e9
    · rw [row_s]
      by_cases e : q = i
      · subst e; exact up_s
      · rw [up_n e]; exact hG q (by omega)
    · show f_X8_leastBy_3 (nI w) (nI h) (nI k) (nI i) M' _ _ = _
      unfold f_X8_leastBy_3
      rw [if_neg (by rw [leN (by omega) (by omega)]; omega), gi_n (by omega) (by omega), clN (by omega), lett_d, lett_d, show nI i + 1 = nI (i + 1) from nI_add i 1]
      rfl
  · right
    have e : i = h := by omega
    subst e
    refine ⟨f_X8_leastBy_23 (nI w) (nI i) (nI k) M', ?_, fun kk => ?_⟩
    rotate_left
    · show f_X8_leastBy_3 (nI w) (nI i) (nI k) (nI i) M' _ _ = _
      unfold f_X8_leastBy_3
      rw [if_pos (Int32.le_refl _)]
    unfold f_X8_leastBy_23
    rw [lett_d]
    unfold l_X8_leastBy_31
    refine itr_rel (fun j z => ∃ M2, z = (nI (restN i w j), nI (k - j) - 1, M2) ∧ fr M M2 ∧ M2.2.2 7 = M.2.2 7 ∧ M2.2.2 9 = M.2.2 9 ∧ (∀ q, q < i → M2.2.2 8 q = nI (getsN i k wt w j q)) ∧ ∀ q, k - j ≤ q → q < k → M2.2.2 10 q = nI (restN i w (k - 1 - q) % i)) _ k ?_ FU 0 _ ⟨M', rfl, hf, e7, e9, hG, fun q a c => by omega⟩ (Nat.zero_le _) (by rw [FU_d]; omega)
    rintro j z hj ⟨M2, rfl, hf2, e72, e92, hG2, hC⟩
    have rl := restN_le (h := i) (w := w) j
    by_cases hjk : j < k
    · left
      have hm : restN i w j % i < i := Nat.mod_lt _ (by omega)
      have gl := getsN_le (h := i) (k := k) (w := w) hw j (restN i w j % i)
      have ec : nI (k - j) - 1 = nI (k - 1 - j) := by rw [show k - j = (k - 1 - j) + 1 by omega]; exact dec1
      obtain ⟨n1, n2, n3⟩ := mL (k - 1 - j) (by omega)
      generalize hM3 : ((M2.1, M2.2.1, va_up M2.2.2 10 (upd (M2.2.2 10) (k - 1 - j) (nI (restN i w j % i)))) : Ms) = M3
      have hf3 : fr M M3 := by rw [← hM3]; exact fr_up hf2 (by omega)
      have c10 : M3.2.2 10 = upd (M2.2.2 10) (k - 1 - j) (nI (restN i w j % i)) := by rw [← hM3]; exact row_s
      have c8 : M3.2.2 8 = M2.2.2 8 := by rw [← hM3]; exact row_n (by omega)
      have c9 : M3.2.2 9 = M.2.2 9 := by rw [← hM3]; exact (row_n (by omega)).trans e92
      have c7 : M3.2.2 7 = M.2.2 7 := by rw [← hM3]; exact (row_n (by omega)).trans e72
      have gv : f_X8_given (nI (ln (k - 1 - j))) M3 = some (nI (wt (k - 1 - j))) := by
        rw [n3]; exact m_given (by rw [hf3.2.2 0 (by omega)]; exact rm) oa n2
      refine ⟨hjk, (nI (restN i w (j + 1)), nI (k - (j + 1)) - 1, (M3.1, M3.2.1, va_up M3.2.2 8 (upd (M3.2.2 8) (restN i w j % i) (nI (getsN i k wt w j (restN i w j % i) + wt (k - 1 - j)))))), ⟨_, rfl, fr_up hf3 (by omega), ?_, ?_, fun q hq => ?_, fun q hq1 hq2 => ?_⟩, fun kk => ?_⟩
      · exact (row_n (show (7 : Nat) ≠ 8 by omega)).trans c7
      · exact (row_n (show (9 : Nat) ≠ 8 by omega)).trans c9
      · rw [row_s]
        show _ = nI (if q = restN i w j % i then getsN i k wt w j (restN i w j % i) + wt (k - 1 - j) else getsN i k wt w j q)
        by_cases e : q = restN i w j % i
        · rw [e, up_s, if_pos rfl]
        · rw [up_n e, if_neg e, c8]; exact hG2 q hq
      · rw [row_n (by omega), c10]
        by_cases e : q = k - 1 - j
        · rw [e, up_s, show k - 1 - (k - 1 - j) = j by omega]
        · rw [up_n e]; exact hC q (by omega) hq2
      · show f_X8_leastBy_31 (nI i) (nI (restN i w j)) (nI (k - j) - 1) M2 _ _ = _
        unfold f_X8_leastBy_31
        rw [ec, if_neg (by rw [show (0 : Int32) = nI 0 from rfl, ltN (by omega) (by omega)]; omega), gz_n (by omega) (by omega), modN (by omega) (by omega) (by omega), gi_n (by omega) (by omega), clN (by omega), lett_d, hM3, gz_n (by omega) (by omega), lett_d, divN (by omega) (by omega) (by omega), gi_n (by omega) (by omega), c10, up_s, gi_n (by omega) (by omega), gi_n (by omega) (by omega), c9, n1, gv, bn_s, clN (by omega), c8, hG2 _ hm, nI_add, gi_n (by omega) (by omega), lett_d, lett_d, dec2]
        show kk (nI (restN i w j / i), nI (k - 1 - j) - 1, _) = _
        rw [show nI (k - (j + 1)) = nI (k - 1 - j) from congrArg nI (by omega)]
        rfl
    · right
      have e : j = k := by omega
      subst e
      have hb : ∀ q, getsN i j wt w j q ≤ 9504 := fun q => Nat.le_trans (getsN_le hw j q) (by omega)
      refine ⟨f_X8_leastBy_85 (nI i) M2, ?_, fun kk => ?_⟩
      rotate_left
      · show f_X8_leastBy_31 (nI i) (nI (restN i w j)) (nI (j - j) - 1) M2 _ _ = _
        unfold f_X8_leastBy_31
        rw [Nat.sub_self, if_pos neg_lt]
      unfold f_X8_leastBy_85
      rw [show (0 : Int32) = nI 0 from rfl, gi_n (by omega) (by omega), clN (by omega), lett_d, lett_d, hG2 0 (by omega)]
      unfold l_X8_leastBy_96
      refine itr_rel (fun q z => z = (nI (minsN (getsN i j wt w j) q), nI (q + 1))) _ (i - 1) ?_ FU 0 _ rfl (Nat.zero_le _) (by rw [FU_d]; omega)
      rintro q z hq rfl
      have ml := minsN_le hb q
      have gl := hb (q + 1)
      by_cases hqi : q < i - 1
      · left
        refine ⟨hqi, (nI (minsN (getsN i j wt w j) (q + 1)), nI (q + 1 + 1)), rfl, fun kk => ?_⟩
        show f_X8_leastBy_96 (nI i) (nI (minsN (getsN i j wt w j) q)) (nI (q + 1)) M2 _ = _
        unfold f_X8_leastBy_96
        rw [if_neg (by rw [leN (by omega) (by omega)]; omega), gi_n (by omega) (by omega), clN (by omega), hG2 (q + 1) (by omega), m_least _ _ (by omega) (by omega), bn_s, lett_d, show nI (q + 1) + 1 = nI (q + 1 + 1) from nI_add (q + 1) 1]
        rfl
      · right
        have e : q = i - 1 := by omega
        subst e
        refine ⟨some (nI (leastN i j wt w), M2), ok_s ⟨rfl, hf2, e72, e92, fun q hq => hC q (by omega) hq⟩, fun kk => ?_⟩
        show f_X8_leastBy_96 (nI i) (nI (minsN (getsN i j wt w j) (i - 1))) (nI (i - 1 + 1)) M2 _ = _
        unfold f_X8_leastBy_96
        rw [if_pos (by rw [show i - 1 + 1 = i by omega]; exact Int32.le_refl _)]
        rfl
