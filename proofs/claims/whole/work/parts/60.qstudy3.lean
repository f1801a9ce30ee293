/-! the component's questions, part 3 -/
def bst (P : Nat → Bool) : Nat → Nat
  | 0 => 0
  | n + 1 => if P (n + 1) = true then bst P n ||| 2 ^ (n + 1) else bst P n
theorem bst_lt {P : Nat → Bool} : ∀ n, n < 64 → bst P n < 2 ^ 64
  | 0, _ => by show 0 < 2 ^ 64; decide
  | n + 1, h => by
    unfold bst
    split
    · exact Nat.or_lt_two_pow (bst_lt n (by omega)) (Nat.pow_lt_pow_right (by decide) h)
    · exact bst_lt n (by omega)
theorem q_pm0 (b : Bool) : ((if b = true then (1 : Int32) else 0) = 0) ↔ ¬ b = true := by cases b <;> decide
section QM
variable {A : AS} {S : SS} {f : Nat}
theorem st_mono33 (hf : f < nF) : ∀ d n K S, n + d = qF f → 1 ≤ n → d < K → TabC f S → rowR f S 116 (fun s => pw f s (n - 1)) →
    ∃ S', fX4_permutingMonomials_33 K 113 116 (lN (bst (fun m => pmB (qF f) (fun x => pw f x m)) (n - 1))) (nI n) (qH A S) = some (.inl (some (.long (lN (bst (fun m => pmB (qF f) (fun x => pw f x m)) (qF f - 1))))), qH A S') ∧ eqo (fun x => x = 116) S S' := by
  have hq := qz hf
  intro d
  induction d with
  | zero =>
    intro n K S h1 hn h2 hT hw
    obtain ⟨K, rfl⟩ : ∃ k', K = k' + 1 := ⟨K - 1, by omega⟩
    have hz : S.1 1 2 = nI (qF f) := hT.2.2.2.2.2.2.1
    obtain rfl : n = qF f := by omega
    refine ⟨S, ?_, eqo.rf⟩
    rw [fX4_permutingMonomials_33]
    simp (disch := omega) only [gr_113_2, q_bs, gi_1_2, hz, nI_leI, Nat.le_refl, ↓reduceIte]
  | succ d ih =>
    intro n K S h1 hn h2 hT hw
    obtain ⟨K, rfl⟩ : ∃ k', K = k' + 1 := ⟨K - 1, by omega⟩
    have hz : S.1 1 2 = nI (qF f) := hT.2.2.2.2.2.2.1
    have c : ¬ qF f ≤ n := by omega
    let S1 := uA S 116 (fa_fill (fun j => nI (pw f j n)) (S.2.1 116) (qF f))
    have hT1 : TabC f S1 := hT.uA (by decide)
    have hw1 : rowR f S1 116 (fun s => pw f s n) := rowR.fill (fun x hx => pw_lt hf hx _)
    have en : n = (n - 1) + 1 := by omega
    have eb : bst (fun m => pmB (qF f) (fun x => pw f x m)) n = if pmB (qF f) (fun x => pw f x n) = true then bst (fun m => pmB (qF f) (fun x => pw f x m)) (n - 1) ||| 2 ^ n else bst (fun m => pmB (qF f) (fun x => pw f x m)) (n - 1) := by
      have : bst (fun m => pmB (qF f) (fun x => pw f x m)) n = bst (fun m => pmB (qF f) (fun x => pw f x m)) ((n - 1) + 1) := by rw [← en]
      rw [this, bst, ← en]
    obtain ⟨S', a1, a2⟩ := ih (n + 1) K S1 (by omega) (by omega) (by omega) hT1 (by rw [Nat.add_sub_cancel]; exact hw1)
    rw [Nat.add_sub_cancel] at a1
    refine ⟨S', ?_, (eqo.uA (X := fun x => x = 116) rfl).tr a2⟩
    rw [fX4_permutingMonomials_33]
    simp (disch := omega) only [gr_113_2, q_bs, gi_1_2, hz, nI_leI, c, ↓reduceIte]
    have h := loopF0 (fun j i s => fX4_permutingMonomials_48 (fun p0 p1 p2 p4 h => fX4_permutingMonomials_33 K p0 p1 p2 p4 h) j 113 116 (lN (bst (fun m => pmB (qF f) (fun x => pw f x m)) (n - 1))) (nI n) (nI i) (qH A s)) (qF f) (fun i => uA S 116 (fa_fill (fun j => nI (pw f j n)) (S.2.1 116) i)) (some (.inl (some (.long (lN (bst (fun m => pmB (qF f) (fun x => pw f x m)) (qF f - 1))))), qH A S')) (by omega) ?_ ?_
    · rw [fa_fill_0, uA_self] at h
      exact h
    · intro j i hlt
      have c : ¬ qF f ≤ i := by omega
      obtain ⟨w1, w2⟩ := hw i hlt
      have hT2 : TabC f (uA S 116 (fa_fill (fun j => nI (pw f j n)) (S.2.1 116) i)) := hT.uA (by decide)
      have e1 : (uA S 116 (fa_fill (fun j => nI (pw f j n)) (S.2.1 116) i)).2.1 116 i = nI (pw f i (n - 1)) := by rw [uA_at, fa_fill_out (Nat.le_refl _)]; exact w1
      have e3 : mu f (pw f i (n - 1)) i = pw f i n := by
        have : pw f i n = pw f i ((n - 1) + 1) := by rw [← en]
        rw [this]; rfl
      show fX4_permutingMonomials_48 _ (j + 1) 113 116 _ (nI n) (nI i) (qH A _) = _
      rw [fX4_permutingMonomials_48]
      simp (disch := omega) only [gr_113_2, q_bs, gi_1_2, uA_s, hz, nI_leI, c, ↓reduceIte]
      rw [q_ai ql_116 (by omega), q_bs, e1, ob_1, q_cv, tc_mul hf hT2 w2 hlt, q_cal, q_vi, q_si ql_116 (by omega), q_bs, uaA, e3, fa_fill_succ (fun j => nI (pw f j n)), nI_1]
    · intro j
      have hz1 : S1.1 1 2 = nI (qF f) := hz
      show fX4_permutingMonomials_48 _ (j + 1) 113 116 _ (nI n) (nI (qF f)) (qH A S1) = _
      rw [fX4_permutingMonomials_48]
      simp (disch := omega) only [gr_113_2, q_bs, gi_1_2, hz1, nI_leI, Nat.le_refl, ↓reduceIte]
      rw [ob_113, q_cv, st_perm hf hz1 ql_116 hw1, q_cal, q_vi]
      by_cases cp : pmB (qF f) (fun x => pw f x n) = true
      · rw [if_neg (by rw [q_pm0]; exact fun h => h cp), q_letJ, q_sh1 (by omega), wb_or (bst_lt _ (by omega)) (Nat.pow_lt_pow_right (by decide) (by omega)), nI_1]
        rw [eb, if_pos cp] at a1
        exact a1
      · rw [if_pos (by rw [q_pm0]; exact cp), nI_1]
        rw [eb, if_neg cp] at a1
        exact a1
theorem st_mono (hf : f < nF) (hT : TabC f S) : ∃ S', fX4_permutingMonomials 113 (qH A S) = some (.inl (some (.long (lN (bst (fun m => pmB (qF f) (fun x => pw f x m)) (qF f - 1))))), qH A S') ∧ eqo (fun x => x = 116) S S' := by
  have hq := qz hf
  have hz : S.1 1 2 = nI (qF f) := hT.2.2.2.2.2.2.1
  obtain ⟨S', a1, a2⟩ := st_mono33 (A := A) hf (qF f - 1) 1 FU (uA S 116 (fa_fill (fun j => nI (pw f j 0)) (S.2.1 116) (qF f))) (by omega) (by decide) (by unfold FU; omega) (hT.uA (by decide)) (rowR.fill (fun x hx => pw_lt hf hx _))
  refine ⟨S', ?_, (eqo.uA (X := fun x => x = 116) rfl).tr a2⟩
  unfold fX4_permutingMonomials
  rw [gr_113_4, q_bs]
  have h := loopF0 (fun j i s => fX4_permutingMonomials_7 j 113 116 (nI i) (qH A s)) (qF f) (fun i => uA S 116 (fa_fill (fun j => nI (pw f j 0)) (S.2.1 116) i)) (some (.inl (some (.long (lN (bst (fun m => pmB (qF f) (fun x => pw f x m)) (qF f - 1))))), qH A S')) (by omega) ?_ ?_
  · rw [fa_fill_0, uA_self] at h
    exact h
  · intro j i hlt
    have c : ¬ qF f ≤ i := by omega
    show fX4_permutingMonomials_7 (j + 1) 113 116 (nI i) (qH A _) = _
    rw [fX4_permutingMonomials_7]
    simp (disch := omega) only [gr_113_2, q_bs, gi_1_2, uA_s, hz, nI_leI, c, ↓reduceIte]
    rw [q_si ql_116 (by omega), q_bs, uaA, show (1 : Int32) = nI (pw f i 0) from rfl, fa_fill_succ (fun j => nI (pw f j 0)), show nI (pw f i 0) = 1 from rfl, nI_1]
  · intro j
    show fX4_permutingMonomials_7 (j + 1) 113 116 (nI (qF f)) (qH A _) = _
    rw [fX4_permutingMonomials_7]
    simp (disch := omega) only [gr_113_2, q_bs, gi_1_2, uA_s, hz, nI_leI, Nat.le_refl, ↓reduceIte]
    exact a1
theorem st_dick56 (hf : f < nF) {a : Nat} (ha : a < qF f) : ∀ d n K r2 r3 S, n + d = 64 → 1 ≤ n → d < K → TabC f S → ((r2 = 116 ∧ r3 = 117) ∨ (r2 = 117 ∧ r3 = 116)) → rowR f S r2 (fun s => dk f a s (n - 1)) → rowR f S r3 (fun s => dk f a s n) →
    ∃ S', fX4_permutingDicksons_56 K 113 (nI a) r2 r3 (lN (bst (fun m => pmB (qF f) (fun x => dk f a x m)) (n - 1))) (nI n) (qH A S) = some (.inl (some (.long (lN (bst (fun m => pmB (qF f) (fun x => dk f a x m)) 63)))), qH A S') ∧ eqo (fun x => x = 116 ∨ x = 117) S S' := by
  have hq := qz hf
  intro d
  induction d with
  | zero =>
    intro n K r2 r3 S h1 hn h2 hT hrr hw2 hw3
    obtain ⟨K, rfl⟩ : ∃ k', K = k' + 1 := ⟨K - 1, by omega⟩
    obtain rfl : n = 64 := by omega
    refine ⟨S, ?_, eqo.rf⟩
    rw [fX4_permutingDicksons_56, if_pos (by decide)]
  | succ d ih =>
    intro n K r2 r3 S h1 hn h2 hT hrr hw2 hw3
    obtain ⟨K, rfl⟩ : ∃ k', K = k' + 1 := ⟨K - 1, by omega⟩
    have hz : S.1 1 2 = nI (qF f) := hT.2.2.2.2.2.2.1
    have l2 : qL A r2 64 := by rcases hrr with ⟨rfl, rfl⟩ | ⟨rfl, rfl⟩; exact ql_116; exact ql_117
    have l3 : qL A r3 64 := by rcases hrr with ⟨rfl, rfl⟩ | ⟨rfl, rfl⟩; exact ql_117; exact ql_116
    have hne : r3 ≠ r2 := by omega
    have h5 : 5 < r2 := by omega
    have en : n = (n - 1) + 1 := by omega
    let S1 := uA S r2 (fa_fill (fun j => nI (dk f a j (n + 1))) (S.2.1 r2) (qF f))
    have hT1 : TabC f S1 := hT.uA h5
    have eb : bst (fun m => pmB (qF f) (fun x => dk f a x m)) n = if pmB (qF f) (fun x => dk f a x n) = true then bst (fun m => pmB (qF f) (fun x => dk f a x m)) (n - 1) ||| 2 ^ n else bst (fun m => pmB (qF f) (fun x => dk f a x m)) (n - 1) := by
      have : bst (fun m => pmB (qF f) (fun x => dk f a x m)) n = bst (fun m => pmB (qF f) (fun x => dk f a x m)) ((n - 1) + 1) := by rw [← en]
      rw [this, bst, ← en]
    obtain ⟨S', a1, a2⟩ := ih (n + 1) K r3 r2 S1 (by omega) (by omega) (by omega) hT1 (by omega) (by rw [Nat.add_sub_cancel]; exact hw3.ne hne) (rowR.fill (fun x hx => dk_lt hf ha hx _))
    rw [Nat.add_sub_cancel] at a1
    refine ⟨S', ?_, (eqo.uA (X := fun x => x = 116 ∨ x = 117) (by omega)).tr a2⟩
    have inner : ∀ w, fX4_permutingDicksons_80 (fun p0 p1 p2 p3 p4 p6 h => fX4_permutingDicksons_56 K p0 p1 p2 p3 p4 p6 h) 113 (nI a) r2 r3 w (nI n) (qH A S) = fX4_permutingDicksons_56 K 113 (nI a) r3 r2 w (nI (n + 1)) (qH A S1) := by
      intro w
      unfold fX4_permutingDicksons_80
      have h := loopF0 (fun j i s => fX4_permutingDicksons_83 (fun p0 p1 p2 p3 p4 p6 h => fX4_permutingDicksons_56 K p0 p1 p2 p3 p4 p6 h) j 113 (nI a) r2 r3 w (nI n) (nI i) (qH A s)) (qF f) (fun i => uA S r2 (fa_fill (fun j => nI (dk f a j (n + 1))) (S.2.1 r2) i)) (fX4_permutingDicksons_56 K 113 (nI a) r3 r2 w (nI (n + 1)) (qH A S1)) (by omega) ?_ ?_
      · rw [fa_fill_0, uA_self] at h
        exact h
      · intro j i hlt
        have c : ¬ qF f ≤ i := by omega
        obtain ⟨w1, w2⟩ := hw2 i hlt
        obtain ⟨v1, v2⟩ := hw3 i hlt
        have hT2 : TabC f (uA S r2 (fa_fill (fun j => nI (dk f a j (n + 1))) (S.2.1 r2) i)) := hT.uA h5
        have e1 : (uA S r2 (fa_fill (fun j => nI (dk f a j (n + 1))) (S.2.1 r2) i)).2.1 r2 i = nI (dk f a i (n - 1)) := by rw [uA_at, fa_fill_out (Nat.le_refl _)]; exact w1
        have e2 : (uA S r2 (fa_fill (fun j => nI (dk f a j (n + 1))) (S.2.1 r2) i)).2.1 r3 i = nI (dk f a i n) := by rw [uA_ne hne]; exact v1
        have e3 : ad f (mu f i (dk f a i n)) (ng f (mu f a (dk f a i (n - 1)))) = dk f a i (n + 1) := by
          have : dk f a i (n + 1) = dk f a i ((n - 1) + 2) := by rw [show n - 1 + 2 = n + 1 by omega]
          rw [this, dk, ← en]
        show fX4_permutingDicksons_83 _ (j + 1) 113 (nI a) r2 r3 w (nI n) (nI i) (qH A _) = _
        rw [fX4_permutingDicksons_83]
        simp (disch := omega) only [gr_113_2, q_bs, gi_1_2, uA_s, hz, nI_leI, c, ↓reduceIte]
        rw [q_ai l3 (by omega), q_bs, e2, ob_1, q_cv, tc_mul hf hT2 hlt v2, q_cal, q_vi, gr_113_2, q_bs, q_ai l2 (by omega), q_bs, e1, ob_1, q_cv, tc_mul hf hT2 ha w2, q_cal, q_vi, ob_1, q_cv, tc_dif hf hT2 (mu_lt hf hlt v2) (mu_lt hf ha w2), q_cal, q_vi, q_si l2 (by omega), q_bs, uaA, e3, fa_fill_succ (fun j => nI (dk f a j (n + 1))), nI_1]
      · intro j
        show fX4_permutingDicksons_83 _ (j + 1) 113 (nI a) r2 r3 w (nI n) (nI (qF f)) (qH A _) = _
        rw [fX4_permutingDicksons_83]
        simp (disch := omega) only [gr_113_2, q_bs, gi_1_2, uA_s, hz, nI_leI, Nat.le_refl, ↓reduceIte]
        rw [nI_1]
    rw [fX4_permutingDicksons_56, if_neg (by rw [qlit, nI_ltI (by decide) (by omega)]; omega), ob_113, q_cv, st_perm hf hz l3 hw3, q_cal, q_vi]
    by_cases cp : pmB (qF f) (fun x => dk f a x n) = true
    · rw [if_neg (by rw [q_pm0]; exact fun h => h cp), q_letJ, q_sh1 (by omega), wb_or (bst_lt _ (by omega)) (Nat.pow_lt_pow_right (by decide) (by omega)), inner]
      rw [eb, if_pos cp] at a1
      exact a1
    · rw [if_pos (by rw [q_pm0]; exact cp), inner]
      rw [eb, if_neg cp] at a1
      exact a1
theorem st_dick (hf : f < nF) (hT : TabC f S) {a : Nat} (ha : a < qF f) : ∃ S', fX4_permutingDicksons 113 (nI a) (qH A S) = some (.inl (some (.long (lN (bst (fun m => pmB (qF f) (fun x => dk f a x m)) 63)))), qH A S') ∧ eqo (fun x => x = 116 ∨ x = 117) S S' := by
  have hq := qz hf
  have hz : S.1 1 2 = nI (qF f) := hT.2.2.2.2.2.2.1
  have e0 : ∀ g0 g1, rowR f (uA (uA S 116 (fa_fill (fun j => nI (dk f a j 0)) g0 (qF f))) 117 (fa_fill (fun j => nI (dk f a j 1)) g1 (qF f))) 116 (fun s => dk f a s 0) := fun g0 g1 => (rowR.fill (fun x hx => dk_lt hf ha hx _)).ne (by decide)
  obtain ⟨S', a1, a2⟩ := st_dick56 (A := A) hf ha 63 1 FU 116 117 (uA (uA S 116 (fa_fill (fun j => nI (dk f a j 0)) (S.2.1 116) (qF f))) 117 (fa_fill (fun j => nI (dk f a j 1)) (S.2.1 117) (qF f))) (by omega) (by decide) (by unfold FU; omega) ((hT.uA (by decide)).uA (by decide)) (Or.inl ⟨rfl, rfl⟩) (e0 _ _) (rowR.fill (fun x hx => dk_lt hf ha hx _))
  refine ⟨S', ?_, ((eqo.uA (X := fun x => x = 116 ∨ x = 117) (Or.inl rfl)).tr (eqo.uA (Or.inr rfl))).tr a2⟩
  unfold fX4_permutingDicksons
  rw [gr_113_4, q_bs, gr_113_5, q_bs]
  have h := loopF0 (fun j i s => fX4_permutingDicksons_13 j 113 (nI a) 116 117 (nI i) (qH A s)) (qF f) (fun i => uA (uA S 116 (fa_fill (fun j => nI (dk f a j 0)) (S.2.1 116) i)) 117 (fa_fill (fun j => nI (dk f a j 1)) (S.2.1 117) i)) (some (.inl (some (.long (lN (bst (fun m => pmB (qF f) (fun x => dk f a x m)) 63)))), qH A S')) (by omega) ?_ ?_
  · rw [fa_fill_0, fa_fill_0, uA_self, uA_self] at h
    exact h
  · intro j i hlt
    have c : ¬ qF f ≤ i := by omega
    have hT2 : TabC f (uA (uA S 116 (fa_fill (fun j => nI (dk f a j 0)) (S.2.1 116) i)) 117 (fa_fill (fun j => nI (dk f a j 1)) (S.2.1 117) i)) := (hT.uA (by decide)).uA (by decide)
    have hs := tc_sum (A := A) hf hT2 (q1 hf) (q1 hf)
    show fX4_permutingDicksons_13 (j + 1) 113 (nI a) 116 117 (nI i) (qH A _) = _
    rw [fX4_permutingDicksons_13]
    simp (disch := omega) only [gr_113_2, q_bs, gi_1_2, uA_s, hz, nI_leI, c, ↓reduceIte]
    rw [ob_1, q_cv, show fX0_sum 1 1 1 _ = _ from hs, q_cal, q_vi, q_si ql_116 (by omega), q_bs, ua_uA (by decide), uaA, show nI (ad f 1 1) = nI (dk f a i 0) from rfl, fa_fill_succ (fun j => nI (dk f a j 0)), q_si ql_117 (by omega), q_bs, uaA, nI_1]
    have e9 : upd (fa_fill (fun j => nI (dk f a j 1)) (S.2.1 117) i) i (nI i) = fa_fill (fun j => nI (dk f a j 1)) (S.2.1 117) (i + 1) := fa_fill_succ (fun j => nI (dk f a j 1)) (S.2.1 117) i
    rw [e9]
  · intro j
    show fX4_permutingDicksons_13 (j + 1) 113 (nI a) 116 117 (nI (qF f)) (qH A _) = _
    rw [fX4_permutingDicksons_13]
    simp (disch := omega) only [gr_113_2, q_bs, gi_1_2, uA_s, hz, nI_leI, Nat.le_refl, ↓reduceIte]
    exact a1
theorem st_bin51 (hf : f < nF) {n : Nat} : ∀ d a K S, a + d = qF f → d < K → TabC f S → rowR f S 116 (fun s => pw f s n) →
    ∃ S', fX4_permutingBinomials_51 K 113 116 117 (nI (fb_ct (fun a => pmB (qF f) (fun x => ad f (pw f x n) (mu f a x))) a)) (nI a) (qH A S) = some (.inl (some (.int (nI (fb_ct (fun a => pmB (qF f) (fun x => ad f (pw f x n) (mu f a x))) (qF f))))), qH A S') ∧ eqo (fun x => x = 117) S S' := by
  have hq := qz hf
  intro d
  induction d with
  | zero =>
    intro a K S h1 h2 hT hw
    obtain ⟨K, rfl⟩ : ∃ k', K = k' + 1 := ⟨K - 1, by omega⟩
    have hz : S.1 1 2 = nI (qF f) := hT.2.2.2.2.2.2.1
    obtain rfl : a = qF f := by omega
    refine ⟨S, ?_, eqo.rf⟩
    rw [fX4_permutingBinomials_51]
    simp (disch := omega) only [gr_113_2, q_bs, gi_1_2, hz, nI_leI, Nat.le_refl, ↓reduceIte]
  | succ d ih =>
    intro a K S h1 h2 hT hw
    obtain ⟨K, rfl⟩ : ∃ k', K = k' + 1 := ⟨K - 1, by omega⟩
    have hz : S.1 1 2 = nI (qF f) := hT.2.2.2.2.2.2.1
    have ha : a < qF f := by omega
    have c : ¬ qF f ≤ a := by omega
    let S1 := uA S 117 (fa_fill (fun j => nI (ad f (pw f j n) (mu f a j))) (S.2.1 117) (qF f))
    have hT1 : TabC f S1 := hT.uA (by decide)
    have hw1 : rowR f S1 117 (fun x => ad f (pw f x n) (mu f a x)) := rowR.fill (fun x hx => ad_lt hf (pw_lt hf hx _) (mu_lt hf ha hx))
    obtain ⟨S', a1, a2⟩ := ih (a + 1) K S1 (by omega) (by omega) hT1 (hw.ne (by decide))
    refine ⟨S', ?_, (eqo.uA (X := fun x => x = 117) rfl).tr a2⟩
    rw [fX4_permutingBinomials_51]
    simp (disch := omega) only [gr_113_2, q_bs, gi_1_2, hz, nI_leI, c, ↓reduceIte]
    have h := loopF0 (fun j i s => fX4_permutingBinomials_66 (fun p0 p2 p3 p4 p5 h => fX4_permutingBinomials_51 K p0 p2 p3 p4 p5 h) j 113 116 117 (nI (fb_ct (fun a => pmB (qF f) (fun x => ad f (pw f x n) (mu f a x))) a)) (nI a) (nI i) (qH A s)) (qF f) (fun i => uA S 117 (fa_fill (fun j => nI (ad f (pw f j n) (mu f a j))) (S.2.1 117) i)) (some (.inl (some (.int (nI (fb_ct (fun a => pmB (qF f) (fun x => ad f (pw f x n) (mu f a x))) (qF f))))), qH A S')) (by omega) ?_ ?_
    · rw [fa_fill_0, uA_self] at h
      exact h
    · intro j i hlt
      have c : ¬ qF f ≤ i := by omega
      obtain ⟨w1, w2⟩ := hw i hlt
      have hT2 : TabC f (uA S 117 (fa_fill (fun j => nI (ad f (pw f j n) (mu f a j))) (S.2.1 117) i)) := hT.uA (by decide)
      show fX4_permutingBinomials_66 _ (j + 1) 113 116 117 _ (nI a) (nI i) (qH A _) = _
      rw [fX4_permutingBinomials_66]
      simp (disch := omega) only [gr_113_2, q_bs, gi_1_2, uA_s, hz, nI_leI, c, ↓reduceIte]
      rw [q_ai ql_116 (by omega), q_bs, uA_ne (by decide), w1, ob_1, q_cv, tc_mul hf hT2 ha hlt, q_cal, q_vi, ob_1, q_cv, tc_sum hf hT2 w2 (mu_lt hf ha hlt), q_cal, q_vi, q_si ql_117 (by omega), q_bs, uaA, fa_fill_succ (fun j => nI (ad f (pw f j n) (mu f a j))), nI_1]
    · intro j
      have hz1 : S1.1 1 2 = nI (qF f) := hz
      show fX4_permutingBinomials_66 _ (j + 1) 113 116 117 _ (nI a) (nI (qF f)) (qH A S1) = _
      rw [fX4_permutingBinomials_66]
      simp (disch := omega) only [gr_113_2, q_bs, gi_1_2, hz1, nI_leI, Nat.le_refl, ↓reduceIte]
      rw [ob_113, q_cv, st_perm hf hz1 ql_117 hw1, q_cal, q_vi, nI_1, nI_1]
      rw [fb_ct_succ] at a1
      by_cases cp : pmB (qF f) (fun x => ad f (pw f x n) (mu f a x)) = true
      · rw [if_neg (by rw [q_pm0]; exact fun h => h cp)]
        rw [if_pos cp] at a1
        exact a1
      · rw [if_pos (by rw [q_pm0]; exact cp)]
        rw [if_neg cp] at a1
        exact a1
theorem st_bin (hf : f < nF) (hT : TabC f S) {n : Nat} (hn : n < 64) : ∃ S', fX4_permutingBinomials 113 (nI n) (qH A S) = some (.inl (some (.int (nI (fb_ct (fun a => pmB (qF f) (fun x => ad f (pw f x n) (mu f a x))) (qF f))))), qH A S') ∧ eqo (fun x => x = 116 ∨ x = 117) S S' := by
  have hq := qz hf
  have hz : S.1 1 2 = nI (qF f) := hT.2.2.2.2.2.2.1
  obtain ⟨S', a1, a2⟩ := st_bin51 (A := A) (n := n) hf (qF f) 0 FU (uA S 116 (fa_fill (fun j => nI (pw f j n)) (S.2.1 116) (qF f))) (by omega) (by unfold FU; omega) (hT.uA (by decide)) (rowR.fill (fun x hx => pw_lt hf hx _))
  refine ⟨S', ?_, (eqo.uA (X := fun x => x = 116 ∨ x = 117) (Or.inl rfl)).tr (a2.mo (fun b hb => Or.inr hb))⟩
  unfold fX4_permutingBinomials
  rw [gr_113_4, q_bs, gr_113_5, q_bs]
  have h := loopF0 (fun j i s => fX4_permutingBinomials_13 j 113 (nI n) 116 117 (nI i) (qH A s)) (qF f) (fun i => uA S 116 (fa_fill (fun j => nI (pw f j n)) (S.2.1 116) i)) (some (.inl (some (.int (nI (fb_ct (fun a => pmB (qF f) (fun x => ad f (pw f x n) (mu f a x))) (qF f))))), qH A S')) (by omega) ?_ ?_
  · rw [fa_fill_0, uA_self] at h
    exact h
  · intro j i hlt
    have c : ¬ qF f ≤ i := by omega
    have hT2 : TabC f (uA S 116 (fa_fill (fun j => nI (pw f j n)) (S.2.1 116) i)) := hT.uA (by decide)
    show fX4_permutingBinomials_13 (j + 1) 113 (nI n) 116 117 (nI i) (qH A _) = _
    rw [fX4_permutingBinomials_13]
    simp (disch := omega) only [gr_113_2, q_bs, gi_1_2, uA_s, hz, nI_leI, c, ↓reduceIte]
    rw [ob_1, q_cv, tc_raised hf hT2 (by omega) hlt, q_cal, q_vi, q_si ql_116 (by omega), q_bs, uaA, fa_fill_succ (fun j => nI (pw f j n)), nI_1]
  · intro j
    show fX4_permutingBinomials_13 (j + 1) 113 (nI n) 116 117 (nI (qF f)) (qH A _) = _
    rw [fX4_permutingBinomials_13]
    simp (disch := omega) only [gr_113_2, q_bs, gi_1_2, uA_s, hz, nI_leI, Nat.le_refl, ↓reduceIte]
    exact a1
end QM
