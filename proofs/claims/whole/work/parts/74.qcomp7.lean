/-! orbits and the print -/
def omF (q c : Nat) (W : Nat → Nat → Nat) : Nat → Nat
  | 0 => 0
  | s + 1 => if (omF q c W s).testBit s = true then omF q c W s else omF q c W s ||| rcF q c W q (2 ^ s)
def ofF (q c : Nat) (W : Nat → Nat → Nat) (s : Nat) : Nat := fb_ct (fun z => !(omF q c W z).testBit z) s
theorem om_bit {q c : Nat} {W : Nat → Nat → Nat} (hW : ∀ i, i < c → ∀ x, x < q → W i x < q) (y : Nat) : ∀ s, s ≤ q → ((omF q c W s).testBit y = true ↔ ∃ z, z < s ∧ Rch q c W z y)
  | 0, _ => by simp [omF]
  | s + 1, hs => by
    unfold omF
    by_cases h : (omF q c W s).testBit s = true
    · rw [if_pos h, om_bit hW y s (by omega)]
      obtain ⟨z0, z1, z2⟩ := (om_bit hW s s (by omega)).mp h
      constructor
      · rintro ⟨z, h1, h2⟩; exact ⟨z, by omega, h2⟩
      · rintro ⟨z, h1, h2⟩
        by_cases e : z = s
        · subst e; exact ⟨z0, z1, z2.tr h2⟩
        · exact ⟨z, by omega, h2⟩
    · rw [if_neg h, Nat.testBit_or, Bool.or_eq_true, om_bit hW y s (by omega), rc_bit hW (by omega) y]
      constructor
      · rintro (⟨z, h1, h2⟩ | h1)
        · exact ⟨z, by omega, h2⟩
        · exact ⟨s, by omega, h1⟩
      · rintro ⟨z, h1, h2⟩
        by_cases e : z = s
        · subst e; exact Or.inr h2
        · exact Or.inl ⟨z, by omega, h2⟩
theorem rc_lt {q c : Nat} {W : Nat → Nat → Nat} (hq : q ≤ 64) (hW : ∀ i, i < c → ∀ x, x < q → W i x < q) {u : Nat} (hu : u < q) : rcF q c W q (2 ^ u) < 2 ^ 64 := by
  apply Nat.lt_pow_two_of_testBit
  intro i hi
  cases hb : (rcF q c W q (2 ^ u)).testBit i with
  | false => rfl
  | true =>
    have := Rch.lt hW hu ((rc_bit hW hu i).mp hb)
    omega
theorem om_lt {q c : Nat} {W : Nat → Nat → Nat} (hq : q ≤ 64) (hW : ∀ i, i < c → ∀ x, x < q → W i x < q) : ∀ s, s ≤ q → omF q c W s < 2 ^ 64
  | 0, _ => by show 0 < 2 ^ 64; decide
  | s + 1, h => by
    unfold omF
    split
    · exact om_lt hq hW s (by omega)
    · exact Nat.or_lt_two_pow (om_lt hq hW s (by omega)) (rc_lt hq hW (by omega))
def prR (R : Nat → Nat) : Nat → Int64 → Int64
  | 0, v => v
  | n + 1, v => 31 * prR R n v + (nI (R n)).toInt64
def prP (q : Nat) (W : Nat → Nat → Nat) : Nat → Int64
  | 0 => 0
  | i + 1 => prR (W i) q (prP q W i)
section QV7
variable {A : AS} {S : SS} {G : GS}
theorem oc_orbits (h : CI G S) : cOK A S (fX6_orbits 0 (qH A S)) (.inr (.int (nI (ofF (qF G.1.1) G.1.2.1 G.1.2.2 (qF G.1.1)))), G) := by
  have hq := qz h.2.1.1
  have hz : S.1 1 2 = nI (qF G.1.1) := h.1.2.2.2.2.2.2.1
  have hW : ∀ i, i < G.1.2.1 → ∀ y, y < qF G.1.1 → G.1.2.2 i y < qF G.1.1 := fun i hi y hy => (h.2.1.2.2.2.2.2 i hi y hy).2
  refine c_ret h ?_
  unfold fX6_orbits
  have hh := loopF0 (fun k s (w : Nat × Nat) => fX6_orbits_7 k 0 (lN w.1) (nI w.2) (nI s) (qH A S)) (qF G.1.1) (fun s => (omF (qF G.1.1) G.1.2.1 G.1.2.2 s, ofF (qF G.1.1) G.1.2.1 G.1.2.2 s)) (some (.inl (some (.int (nI (ofF (qF G.1.1) G.1.2.1 G.1.2.2 (qF G.1.1))))), qH A S)) (by omega) ?_ ?_
  · exact hh
  · intro k s hs
    have c : ¬ qF G.1.1 ≤ s := by omega
    have hl := om_lt hq.1 hW s (by omega)
    show fX6_orbits_7 (k + 1) 0 (lN (omF (qF G.1.1) G.1.2.1 G.1.2.2 s)) (nI (ofF (qF G.1.1) G.1.2.1 G.1.2.2 s)) (nI s) (qH A S) = fX6_orbits_7 k 0 (lN (if (omF (qF G.1.1) G.1.2.1 G.1.2.2 s).testBit s = true then omF (qF G.1.1) G.1.2.1 G.1.2.2 s else omF (qF G.1.1) G.1.2.1 G.1.2.2 s ||| rcF (qF G.1.1) G.1.2.1 G.1.2.2 (qF G.1.1) (2 ^ s))) (nI (fb_ct (fun z => !(omF (qF G.1.1) G.1.2.1 G.1.2.2 z).testBit z) (s + 1))) (nI (s + 1)) (qH A S)
    rw [fb_ct_succ, fX6_orbits_7]
    simp (disch := omega) only [gr_0_0, q_bs, gi_1_2, hz, nI_leI, c, ↓reduceIte]
    by_cases e : (omF (qF G.1.1) G.1.2.1 G.1.2.2 s).testBit s = true
    · rw [if_neg (by rw [q_tb0 hl (by omega), e]; decide), if_pos e, if_neg (by rw [e]; decide), nI_1]
      rfl
    · have e' : (omF (qF G.1.1) G.1.2.1 G.1.2.2 s).testBit s = false := by simpa using e
      rw [if_pos ((q_tb0 hl (by omega)).mpr e'), if_neg e, if_pos (by rw [e']; decide), gr_0_6, q_bs, gr_0_1, q_bs, ob_113, q_cv, st_reach hz h.2.1 hs, q_cal, q_vj, wb_or hl (rc_lt hq.1 hW hs), nI_1, nI_1]
      rfl
  · intro k
    show fX6_orbits_7 (k + 1) 0 (lN _) (nI _) (nI (qF G.1.1)) (qH A S) = _
    rw [fX6_orbits_7]
    simp (disch := omega) only [gr_0_0, q_bs, gi_1_2, hz, nI_leI, Nat.le_refl, ↓reduceIte]
theorem oc_print (h : CI G S) : cOK A S (fX6_print 0 (qH A S)) (.inr (.long (prP (qF G.1.1) G.1.2.2 G.1.2.1)), G) := by
  have hq := qz h.2.1.1
  have hs : isSt 7 = true := by decide
  have hz : S.1 1 2 = nI (qF G.1.1) := h.1.2.2.2.2.2.2.1
  have h4 : S.1 7 2 = nI G.1.2.1 := h.2.1.2.2.2.1
  have h5 := h.2.1.2.2.2.2.1
  refine c_ret h ?_
  unfold fX6_print
  have hh := loopF0 (fun k i (w : Int64) => fX6_print_4 k 0 w (nI i) (qH A S)) G.1.2.1 (fun i => prP (qF G.1.1) G.1.2.2 i) (some (.inl (some (.long (prP (qF G.1.1) G.1.2.2 G.1.2.1))), qH A S)) (by omega) ?_ ?_
  · exact hh
  · intro k i hi
    obtain ⟨r1, r2, r3, r4⟩ := x_row (A := A) h hi
    show fX6_print_4 (k + 1) 0 (prP (qF G.1.1) G.1.2.2 i) (nI i) (qH A S) = fX6_print_4 k 0 (prR (G.1.2.2 i) (qF G.1.1) (prP (qF G.1.1) G.1.2.2 i)) (nI (i + 1)) (qH A S)
    rw [fX6_print_4, gr_0_1, q_bs, gi_st hs (by decide), q_bs, h4, if_neg (by rw [nI_leI (by omega) (by omega)]; omega), q_bs, gr_st hs, q_bs, r4, q_bs]
    have h2 := loopF0 (fun j u (w : Int64) => fX6_print_29 (fun p0 p1 p3 h => fX6_print_4 k p0 p1 p3 h) j 0 w (nI i) (7 + 2 + i) (nI u) (qH A S)) (qF G.1.1) (fun u => prR (G.1.2.2 i) u (prP (qF G.1.1) G.1.2.2 i)) (fX6_print_4 k 0 (prR (G.1.2.2 i) (qF G.1.1) (prP (qF G.1.1) G.1.2.2 i)) (nI (i + 1)) (qH A S)) (by omega) ?_ ?_
    · exact h2
    · intro j u hu
      show fX6_print_29 _ (j + 1) 0 (prR (G.1.2.2 i) u (prP (qF G.1.1) G.1.2.2 i)) (nI i) (7 + 2 + i) (nI u) (qH A S) = fX6_print_29 _ j 0 (31 * prR (G.1.2.2 i) u (prP (qF G.1.1) G.1.2.2 i) + (nI (G.1.2.2 i u)).toInt64) (nI i) (7 + 2 + i) (nI (u + 1)) (qH A S)
      rw [fX6_print_29, gr_0_0, q_bs, gi_1_2, q_bs, hz, if_neg (by rw [nI_leI (by omega) (by omega)]; omega), q_ai r2 (by omega), q_bs, (r1 u hu).1, q_letJ, nI_1]
    · intro j
      show fX6_print_29 _ (j + 1) 0 _ (nI i) (7 + 2 + i) (nI (qF G.1.1)) (qH A S) = _
      rw [fX6_print_29, gr_0_0, q_bs, gi_1_2, q_bs, hz, if_pos (by rw [nI_leI (by omega) (by omega)]; exact Nat.le_refl _), nI_1]
  · intro k
    show fX6_print_4 (k + 1) 0 _ (nI G.1.2.1) (qH A S) = _
    rw [fX6_print_4, gr_0_1, q_bs, gi_st hs (by decide), q_bs, h4, if_pos (by rw [nI_leI (by omega) (by omega)]; exact Nat.le_refl _)]
end QV7
