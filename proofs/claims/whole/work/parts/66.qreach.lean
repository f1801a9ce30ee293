/-! reach: sets of points -/
def isF (R : Nat → Nat) (M : Nat) : Nat → Nat
  | 0 => 0
  | n + 1 => if M.testBit n = true then isF R M n ||| 2 ^ R n else isF R M n
theorem is_bit {R : Nat → Nat} {M : Nat} (y : Nat) : ∀ n, (isF R M n).testBit y = true ↔ ∃ s, s < n ∧ M.testBit s = true ∧ R s = y
  | 0 => by simp [isF]
  | n + 1 => by
    unfold isF
    by_cases h : M.testBit n = true
    · rw [if_pos h, fb_bit_set]
      simp only [Bool.or_eq_true, decide_eq_true_eq, is_bit y n]
      constructor
      · rintro (⟨s, h1, h2⟩ | h1)
        · exact ⟨s, by omega, h2⟩
        · exact ⟨n, by omega, h, h1.symm⟩
      · rintro ⟨s, h1, h2, h3⟩
        by_cases e : s = n
        · subst e; exact Or.inr h3.symm
        · exact Or.inl ⟨s, by omega, h2, h3⟩
    · rw [if_neg h, is_bit y n]
      constructor
      · rintro ⟨s, h1, h2⟩; exact ⟨s, by omega, h2⟩
      · rintro ⟨s, h1, h2, h3⟩
        by_cases e : s = n
        · subst e; exact absurd h2 h
        · exact ⟨s, by omega, h2, h3⟩
theorem is_lt {R : Nat → Nat} {M : Nat} : ∀ n, (∀ x, x < n → R x < 64) → isF R M n < 2 ^ 64
  | 0, _ => by show 0 < 2 ^ 64; decide
  | n + 1, h => by
    unfold isF
    split
    · exact Nat.or_lt_two_pow (is_lt n (fun x hx => h x (by omega))) (Nat.pow_lt_pow_right (by decide) (h n (by omega)))
    · exact is_lt n (fun x hx => h x (by omega))
/-- one turn over the rows that permute -/
def rdF (q : Nat) (W : Nat → Nat → Nat) (M : Nat) : Nat → Nat
  | 0 => M
  | i + 1 => if pmB q (W i) = true then rdF q W M i ||| isF (W i) (rdF q W M i) q else rdF q W M i
def rcF (q c : Nat) (W : Nat → Nat → Nat) : Nat → Nat → Nat
  | 0, M => M
  | d + 1, M => if rdF q W M c = M then M else rcF q c W d (rdF q W M c)
theorem rd_lt {q : Nat} {W : Nat → Nat → Nat} {M : Nat} (hq : q ≤ 64) (hM : M < 2 ^ 64) : ∀ c, (∀ i, i < c → ∀ x, x < q → W i x < q) → rdF q W M c < 2 ^ 64
  | 0, _ => hM
  | i + 1, h => by
    have ih := rd_lt (M := M) hq hM i (fun j hj => h j (by omega))
    unfold rdF
    split
    · exact Nat.or_lt_two_pow ih (is_lt q (fun x hx => by have := h i (by omega) x hx; omega))
    · exact ih
section QR
variable {A : AS} {S : SS} {f : Nat}
theorem st_imgset (hf : f < nF) (hz : S.1 1 2 = nI (qF f)) {r M : Nat} {R : Nat → Nat} (lr : qL A r 64) (hr : rowR f S r R) (hM : M < 2 ^ 64) : fX4_imageOfSet 113 r (lN M) (qH A S) = some (.inl (some (.long (lN (isF R M (qF f))))), qH A S) := by
  have hq := qz hf
  have hl : ∀ i, i ≤ qF f → isF R M i < 2 ^ 64 := fun i hi => is_lt i (fun x hx => by have := (hr x (by omega)).2; omega)
  unfold fX4_imageOfSet
  have h := loopF0 (fun k i w => fX4_imageOfSet_6 k 113 r (lN M) w (nI i) (qH A S)) (qF f) (fun i => lN (isF R M i)) (some (.inl (some (.long (lN (isF R M (qF f))))), qH A S)) (by omega) ?_ ?_
  · exact h
  · intro k i hlt
    have c : ¬ qF f ≤ i := by omega
    have hv := (hr i hlt).2
    show fX4_imageOfSet_6 (k + 1) 113 r (lN M) (lN (isF R M i)) (nI i) (qH A S) = fX4_imageOfSet_6 k 113 r (lN M) (lN (if M.testBit i = true then isF R M i ||| 2 ^ R i else isF R M i)) (nI (i + 1)) (qH A S)
    rw [fX4_imageOfSet_6]
    simp (disch := omega) only [gr_113_2, q_bs, gi_1_2, hz, nI_leI, c, ↓reduceIte]
    by_cases e : M.testBit i = true
    · rw [if_pos ((q_tb1 hM (by omega)).mpr e), if_pos e, q_ai lr (by omega), q_bs, (hr i hlt).1, q_letJ, q_sh1 (by omega), wb_or (hl i (by omega)) (Nat.pow_lt_pow_right (by decide) (by omega)), nI_1]
    · rw [if_neg (by rw [q_tb1 hM (by omega)]; exact e), if_neg e, nI_1]
  · intro k
    show fX4_imageOfSet_6 (k + 1) 113 r (lN M) (lN (isF R M (qF f))) (nI (qF f)) (qH A S) = _
    rw [fX4_imageOfSet_6]
    simp (disch := omega) only [gr_113_2, q_bs, gi_1_2, hz, nI_leI, Nat.le_refl, ↓reduceIte]
theorem lN_inj {a b : Nat} (ha : a < 2 ^ 64) (hb : b < 2 ^ 64) : lN a = lN b ↔ a = b := by
  constructor
  · intro h
    have := congrArg (fun z : Int64 => z.toBitVec.toNat) h
    simp only [wb_tn ha, wb_tn hb] at this
    exact this
  · intro h; rw [h]
theorem st_reach25 {σ : PS} (hz : S.1 1 2 = nI (qF σ.1)) (h7 : stR S 7 σ) {M rd : Nat} (hM : M < 2 ^ 64) (K7 : Nat → Nat → Int64 → Int32 → AH → RR) :
    fX4_reachFrom_25 K7 FU 113 7 (lN M) (nI rd) (lN M) 0 (qH A S) = if rdF (qF σ.1) σ.2.2 M σ.2.1 = M then some (.inl (some (.long (lN M))), qH A S) else K7 113 7 (lN (rdF (qF σ.1) σ.2.2 M σ.2.1)) (nI (rd + 1)) (qH A S) := by
  obtain ⟨h1, h2, h3, h4, h5, h6⟩ := h7
  have hq := qz h1
  have hs : isSt 7 = true := by decide
  have hl : ∀ i, i ≤ σ.2.1 → rdF (qF σ.1) σ.2.2 M i < 2 ^ 64 := fun i hi => rd_lt hq.1 hM i (fun j hj x hx => (h6 j (by omega) x hx).2)
  have h := loopF0 (fun k i w => fX4_reachFrom_25 K7 k 113 7 w (nI rd) (lN M) (nI i) (qH A S)) σ.2.1 (fun i => lN (rdF (qF σ.1) σ.2.2 M i)) (if rdF (qF σ.1) σ.2.2 M σ.2.1 = M then some (.inl (some (.long (lN M))), qH A S) else K7 113 7 (lN (rdF (qF σ.1) σ.2.2 M σ.2.1)) (nI (rd + 1)) (qH A S)) (by omega) ?_ ?_
  · exact h
  · intro k i hlt
    have hrow := h6 i hlt
    have lr := ql_st (A := A) hs (show i < 6 by omega)
    show fX4_reachFrom_25 K7 (k + 1) 113 7 (lN (rdF (qF σ.1) σ.2.2 M i)) (nI rd) (lN M) (nI i) (qH A S) = fX4_reachFrom_25 K7 k 113 7 (lN (if pmB (qF σ.1) (σ.2.2 i) = true then rdF (qF σ.1) σ.2.2 M i ||| isF (σ.2.2 i) (rdF (qF σ.1) σ.2.2 M i) (qF σ.1) else rdF (qF σ.1) σ.2.2 M i)) (nI rd) (lN M) (nI (i + 1)) (qH A S)
    rw [fX4_reachFrom_25, gi_st hs (by decide), q_bs, h4, if_neg (by rw [nI_leI (by omega) (by omega)]; omega), gr_st hs, q_bs, ar_mx hs (by omega), q_bs, ob_113, q_cv, st_perm h1 hz lr hrow, q_cal, q_vi]
    by_cases cp : pmB (qF σ.1) (σ.2.2 i) = true
    · rw [if_neg (by rw [q_pm0]; exact fun h => h cp), if_pos cp, gr_st hs, q_bs, ar_mx hs (by omega), q_bs, ob_113, q_cv, st_imgset h1 hz lr hrow (hl i (by omega)), q_cal, q_vj, wb_or (hl i (by omega)) (is_lt _ (fun x hx => by have := (hrow x hx).2; omega)), nI_1]
    · rw [if_pos (by rw [q_pm0]; exact cp), if_neg cp, nI_1]
  · intro k
    show fX4_reachFrom_25 K7 (k + 1) 113 7 (lN (rdF (qF σ.1) σ.2.2 M σ.2.1)) (nI rd) (lN M) (nI σ.2.1) (qH A S) = _
    rw [fX4_reachFrom_25, gi_st hs (by decide), q_bs, h4, if_pos (by rw [nI_leI (by omega) (by omega)]; exact Nat.le_refl _), nI_1]
    by_cases e : rdF (qF σ.1) σ.2.2 M σ.2.1 = M
    · rw [if_pos (by rw [cmp0, e]), if_pos e, e]
    · rw [if_neg (by rw [cmp0, lN_inj (hl _ (Nat.le_refl _)) hM]; exact e), if_neg e]
theorem st_reach7 {σ : PS} (hz : S.1 1 2 = nI (qF σ.1)) (h7 : stR S 7 σ) : ∀ d rd K M, rd + d = qF σ.1 → d < K → M < 2 ^ 64 → fX4_reachFrom_7 K 113 7 (lN M) (nI rd) (qH A S) = some (.inl (some (.long (lN (rcF (qF σ.1) σ.2.1 σ.2.2 d M)))), qH A S) := by
  have hq := qz h7.1
  intro d
  induction d with
  | zero =>
    intro rd K M h1 h2 hM
    obtain ⟨K, rfl⟩ : ∃ k', K = k' + 1 := ⟨K - 1, by omega⟩
    rw [fX4_reachFrom_7, gr_113_2, q_bs, gi_1_2, q_bs, hz, if_pos (by rw [nI_leI (by omega) (by omega)]; omega)]
    rfl
  | succ d ih =>
    intro rd K M h1 h2 hM
    obtain ⟨K, rfl⟩ : ∃ k', K = k' + 1 := ⟨K - 1, by omega⟩
    rw [fX4_reachFrom_7, gr_113_2, q_bs, gi_1_2, q_bs, hz, if_neg (by rw [nI_leI (by omega) (by omega)]; omega), st_reach25 hz h7 hM, rcF]
    split
    · rfl
    · exact ih (rd + 1) K _ (by omega) (by omega) (rd_lt hq.1 hM _ (fun j hj x hx => (h7.2.2.2.2.2 j hj x hx).2))
theorem st_reach {σ : PS} (hz : S.1 1 2 = nI (qF σ.1)) (h7 : stR S 7 σ) {x : Nat} (hx : x < qF σ.1) : fX4_reachFrom 113 (nI x) 7 (qH A S) = some (.inl (some (.long (lN (rcF (qF σ.1) σ.2.1 σ.2.2 (qF σ.1) (2 ^ x))))), qH A S) := by
  have hq := qz h7.1
  unfold fX4_reachFrom
  rw [q_sh1 (by omega), q_letJ]
  exact st_reach7 hz h7 (qF σ.1) 0 FU (2 ^ x) (by omega) (by unfold FU; omega) (Nat.pow_lt_pow_right (by decide) (by omega))
end QR
