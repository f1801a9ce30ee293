/-! the order: the least common multiple of the lengths -/
def lcT (P : Nat → Bool) : Nat → Nat
  | 0 => 1
  | n + 1 => if P (n + 1) = true then Nat.lcm (lcT P n) (n + 1) else lcT P n
def prT (P : Nat → Bool) : Nat → Nat
  | 0 => 1
  | n + 1 => if P (n + 1) = true then prT P n * (n + 1) else prT P n
def smT (P : Nat → Bool) : Nat → Nat
  | 0 => 0
  | n + 1 => if P (n + 1) = true then smT P n + (n + 1) else smT P n
def kT (P : Nat → Bool) : Nat → Nat
  | 0 => 0
  | n + 1 => if P (n + 1) = true then kT P n + 1 else kT P n
theorem lcT_pos (P : Nat → Bool) : ∀ n, 0 < lcT P n
  | 0 => Nat.one_pos
  | n + 1 => by unfold lcT; split; exact Nat.lcm_pos (lcT_pos P n) (by omega); exact lcT_pos P n
theorem prT_pos (P : Nat → Bool) : ∀ n, 0 < prT P n
  | 0 => Nat.one_pos
  | n + 1 => by unfold prT; split; exact Nat.mul_pos (prT_pos P n) (by omega); exact prT_pos P n
theorem lcT_dvd (P : Nat → Bool) : ∀ n, lcT P n ∣ prT P n
  | 0 => Nat.dvd_refl 1
  | n + 1 => by
    unfold lcT prT
    split
    · exact Nat.lcm_dvd (Nat.dvd_trans (lcT_dvd P n) (Nat.dvd_mul_right _ _)) (Nat.dvd_mul_left _ _)
    · exact lcT_dvd P n
theorem n4 : ∀ n, n < 65 → n ^ 4 ≤ 2 ^ (n + 5) := by decide +kernel
theorem prT_4 (P : Nat → Bool) : ∀ n, n < 65 → prT P n ^ 4 ≤ 2 ^ (smT P n + 5 * kT P n)
  | 0, _ => by show 1 ^ 4 ≤ 2 ^ (0 + 5 * 0); decide
  | n + 1, h => by
    have ih := prT_4 P n (by omega)
    unfold prT smT kT
    split
    · rw [Nat.mul_pow, show smT P n + (n + 1) + 5 * (kT P n + 1) = (smT P n + 5 * kT P n) + (n + 1 + 5) by omega, Nat.pow_add]
      exact Nat.mul_le_mul ih (n4 (n + 1) h)
    · exact ih
theorem kT_le (P : Nat → Bool) : ∀ n, kT P n ≤ n
  | 0 => Nat.le_refl _
  | n + 1 => by have := kT_le P n; unfold kT; split <;> omega
theorem kT_sm (P : Nat → Bool) : ∀ n, kT P n * (kT P n + 1) ≤ 2 * smT P n
  | 0 => by show 0 * (0 + 1) ≤ 2 * 0; decide
  | n + 1 => by
    have ih := kT_sm P n
    have hk := kT_le P n
    unfold smT kT
    split
    · have e : (kT P n + 1) * (kT P n + 1 + 1) = kT P n * (kT P n + 1) + 2 * (kT P n + 1) := by
        rw [Nat.add_mul, Nat.mul_add (kT P n) (kT P n + 1) 1]; omega
      omega
    · exact ih
theorem lcT_lt (P : Nat → Bool) {n : Nat} (hn : n < 65) (h : smT P n ≤ 64) : lcT P n < 2 ^ 31 := by
  have h1 := prT_4 P n hn
  have h2 := kT_sm P n
  have hk : kT P n ≤ 10 := by
    cases Nat.lt_or_ge 10 (kT P n) with
    | inl hc =>
      have : 11 * 12 ≤ kT P n * (kT P n + 1) := Nat.mul_le_mul hc (by omega)
      omega
    | inr hc => exact hc
  have h3 : prT P n ^ 4 ≤ 2 ^ 114 := Nat.le_trans h1 (Nat.pow_le_pow_right (by decide) (by omega))
  have h4 : prT P n < 2 ^ 31 := by
    cases Nat.lt_or_ge (prT P n) (2 ^ 31) with
    | inl hc => exact hc
    | inr hc =>
      have h5 : (2 ^ 31) ^ 4 ≤ prT P n ^ 4 := Nat.pow_le_pow_left hc 4
      exfalso
      have h6 : (2 ^ 31) ^ 4 ≤ 2 ^ 114 := Nat.le_trans h5 h3
      exact absurd h6 (by decide)
  exact Nat.lt_of_le_of_lt (Nat.le_of_dvd (prT_pos P n) (lcT_dvd P n)) h4
theorem lcT_mono (P : Nat → Bool) {m : Nat} : ∀ d, lcT P m ∣ lcT P (m + d)
  | 0 => Nat.dvd_refl _
  | d + 1 => by
    refine Nat.dvd_trans (lcT_mono P d) ?_
    show lcT P (m + d) ∣ lcT P (m + d + 1)
    rw [lcT.eq_2]
    split
    · exact Nat.dvd_lcm_left _ _
    · exact Nat.dvd_refl _
/-- lengths, all of them together -/
theorem cy_sum {q : Nat} {R : Nat → Nat} (h : pmB q R = true) (hR : ∀ x, x < q → R x < q) : ∀ s, s ≤ q → fb_sm (cyc q R) s = fb_ct (fun y => (mdF q R s).testBit y) q := by
  intro s
  induction s with
  | zero =>
    intro _
    show 0 = _
    refine (fb_ct_zero.mpr (fun k _ => ?_)).symm
    show Nat.testBit 0 k = false
    exact Nat.zero_testBit k
  | succ s ih =>
    intro hs
    have hsq : s < q := by omega
    rw [fb_sm_succ, ih (by omega)]
    have two := cyc_two h hR hsq
    have key : ∀ n, n ≤ cyc q R s → fb_ct (fun y => (moF R (mdF q R s) s n).testBit y) q = fb_ct (fun y => (mdF q R s).testBit y) q + n := by
      intro n
      induction n with
      | zero => intro _; rfl
      | succ n ihn =>
        intro hn
        have hi := itf_lt hR n s hsq
        have hnot : (moF R (mdF q R s) s n).testBit (itf R n s) = false := by
          cases hb : (moF R (mdF q R s) s n).testBit (itf R n s) with
          | false => rfl
          | true =>
            exfalso
            rcases two with ⟨-, h0⟩ | ⟨c0, c1, c2, c3, c4⟩
            · omega
            · rcases (mo_bit _ n).mp hb with hh | ⟨i, i1, i2⟩
              · obtain ⟨z, z1, m, z2⟩ := (md_bit h hR _ s (by omega)).mp hh
                refine c0 ⟨z, z1, m + (cyc q R s - n), ?_⟩
                rw [itf_add, z2, ← itf_add, show n + (cyc q R s - n) = cyc q R s by omega, c3]
              · have e : itf R (n - i) s = s := by
                  have : itf R i (itf R (n - i) s) = itf R i s := by rw [← itf_add, show n - i + i = n by omega]; exact i2.symm
                  exact it_inj h hR i (itf_lt hR _ s hsq) hsq this
                have := c4 (n - i) (by omega) (by omega)
                omega
        have hu : fb_ct (fun k => if k = itf R n s then true else (moF R (mdF q R s) s n).testBit k) q + (if (moF R (mdF q R s) s n).testBit (itf R n s) = true then 1 else 0) = fb_ct (fun y => (moF R (mdF q R s) s n).testBit y) q + (if true = true then 1 else 0) := fb_ct_upd (fun y => (moF R (mdF q R s) s n).testBit y) true hi
        rw [hnot, if_neg (by decide), if_pos rfl] at hu
        have hc : fb_ct (fun y => (moF R (mdF q R s) s (n + 1)).testBit y) q = fb_ct (fun k => if k = itf R n s then true else (moF R (mdF q R s) s n).testBit k) q := by
          refine fb_ct_cong (fun k _ => ?_)
          rw [moF, fb_bit_set]
          by_cases e : k = itf R n s
          · rw [if_pos e]; simp [e]
          · rw [if_neg e]; simp [e]
        rw [hc]
        have := ihn (by omega)
        omega
    rw [mdF, key _ (Nat.le_refl _)]
theorem cy_le {q : Nat} {R : Nat → Nat} (h : pmB q R = true) (hR : ∀ x, x < q → R x < q) : fb_sm (cyc q R) q ≤ q := by
  rw [cy_sum h hR q (Nat.le_refl _)]
  exact fb_ct_le _ _
theorem smT_up (P P' : Nat → Bool) (c : Nat) (hP : ∀ n, P' n = true → P n = true ∨ n = c) : ∀ n, smT P' n ≤ smT P n + (if c ≤ n then c else 0)
  | 0 => Nat.zero_le _
  | n + 1 => by
    have ih := smT_up P P' c hP n
    unfold smT
    by_cases h1 : P' (n + 1) = true
    · rw [if_pos h1]
      rcases hP _ h1 with h2 | h2
      · rw [if_pos h2]; split <;> split at ih <;> omega
      · subst h2
        rw [if_neg (by omega)] at ih
        split <;> (split <;> omega)
    · rw [if_neg h1]; split <;> split <;> split at ih <;> omega
theorem smT_cy {q : Nat} {R : Nat → Nat} (N : Nat) : ∀ s, smT (fun n => decide (0 < ccF q R s n)) N ≤ fb_sm (cyc q R) s := by
  intro s
  induction s with
  | zero =>
    have : ∀ n, smT (fun n => decide (0 < ccF q R 0 n)) n = 0 := by
      intro n
      induction n with
      | zero => rfl
      | succ n ih =>
        unfold smT
        rw [if_neg (by unfold ccF; split <;> simp [fb_ct]), ih]
    rw [this]
    exact Nat.zero_le _
  | succ s ih =>
    have hu := smT_up (fun n => decide (0 < ccF q R s n)) (fun n => decide (0 < ccF q R (s + 1) n)) (cyc q R s) (fun n hn => by
      have hn' : 0 < ccF q R (s + 1) n := by simpa using hn
      unfold ccF at hn'
      by_cases e0 : n = 0
      · rw [if_pos e0] at hn'; omega
      · rw [if_neg e0, fb_ct_succ] at hn'
        by_cases e : cyc q R s = n
        · exact Or.inr e.symm
        · left
          rw [if_neg (by simp [e])] at hn'
          simp only [decide_eq_true_eq]
          unfold ccF
          rw [if_neg e0]
          exact hn') N
    rw [fb_sm_succ]
    split at hu <;> omega
section QO
variable {A : AS} {S : SS} {f : Nat}
theorem st_gcd {x n : Nat} (hx : x < 2 ^ 31) (hn : n < 2 ^ 31) (hn0 : 0 < n) : ∀ d K, d < K → Nat.gcd x n ≤ d → d ≤ n → fX4_commonDivisor_2 K (nI x) (nI n) (nI d) (qH A S) = some (.inl (some (.int (nI (Nat.gcd x n)))), qH A S) := by
  have g0 : 0 < Nat.gcd x n := Nat.gcd_pos_of_pos_right x hn0
  intro d
  induction d with
  | zero => intro K _ h; omega
  | succ d ih =>
    intro K hK hg hd
    obtain ⟨K, rfl⟩ : ∃ k', K = k' + 1 := ⟨K - 1, by omega⟩
    rw [fX4_commonDivisor_2]
    by_cases c1 : d = 0
    · subst c1
      rw [if_pos (by decide), show Nat.gcd x n = 1 by omega]
      rfl
    · have c2 : ¬ nI (d + 1) ≤ 1 := by rw [qlit, nI_leI (by omega) (by decide)]; omega
      have c3 : ¬ nI (d + 1) = 0 := by rw [qlit, nI_eq (by omega) (by decide)]; omega
      rw [if_neg c2, if_neg c3, pk_rem hn (by omega) (by omega), pk_rem hx (by omega) (by omega), pk_m1]
      have m1 := Nat.mod_lt n (show 0 < d + 1 by omega)
      have m2 := Nat.mod_lt x (show 0 < d + 1 by omega)
      have down : ¬ (d + 1 ∣ n ∧ d + 1 ∣ x) → Nat.gcd x n ≤ d := by
        intro hno
        by_cases e : Nat.gcd x n = d + 1
        · exact absurd ⟨e ▸ Nat.gcd_dvd_right x n, e ▸ Nat.gcd_dvd_left x n⟩ hno
        · omega
      by_cases c4 : n % (d + 1) = 0
      · rw [if_pos (by rw [c4]; rfl), if_neg c3]
        by_cases c5 : x % (d + 1) = 0
        · rw [if_pos (by rw [c5]; rfl)]
          have := Nat.le_of_dvd g0 (Nat.dvd_gcd (Nat.dvd_of_mod_eq_zero c5) (Nat.dvd_of_mod_eq_zero c4))
          rw [show Nat.gcd x n = d + 1 by omega]
        · rw [if_neg (by rw [qlit, nI_eq (by omega) (by decide)]; exact c5)]
          exact ih K (by omega) (down (fun h => c5 (Nat.mod_eq_zero_of_dvd h.2))) (by omega)
      · rw [if_neg (by rw [qlit, nI_eq (by omega) (by decide)]; exact c4)]
        exact ih K (by omega) (down (fun h => c4 (Nat.mod_eq_zero_of_dvd h.1))) (by omega)
theorem lcm_way (m n : Nat) : m / Nat.gcd m n * n = Nat.lcm m n := by
  unfold Nat.lcm
  rw [Nat.mul_comm m n, Nat.mul_div_assoc _ (Nat.gcd_dvd_left m n), Nat.mul_comm]
theorem st_multiple {c : Nat → Nat} (hc : ∀ n, n < 65 → S.2.1 114 n = nI (c n) ∧ c n < 2 ^ 31) (hs : smT (fun n => decide (0 < c n)) 64 ≤ 64) : fX4_cycleMultiple 113 (qH A S) = some (.inl (some (.int (nI (lcT (fun n => decide (0 < c n)) 64)))), qH A S) := by
  have hlt : ∀ n, n ≤ 64 → lcT (fun n => decide (0 < c n)) n < 2 ^ 31 := fun n hn => by
    have h64 := lcT_lt (fun n => decide (0 < c n)) (n := 64) (by decide) hs
    have := Nat.le_of_dvd (lcT_pos (fun n => decide (0 < c n)) 64) (by have := lcT_mono (fun n => decide (0 < c n)) (m := n) (64 - n); rw [show n + (64 - n) = 64 by omega] at this; exact this)
    omega
  unfold fX4_cycleMultiple
  have h := loopF0 (fun k j m => fX4_cycleMultiple_4 k 113 (nI m) (nI (j + 2)) (qH A S)) 63 (fun j => lcT (fun n => decide (0 < c n)) (j + 1)) (some (.inl (some (.int (nI (lcT (fun n => decide (0 < c n)) 64)))), qH A S)) (by decide) ?_ ?_
  · have e : lcT (fun n => decide (0 < c n)) (0 + 1) = 1 := by
      show (if _ then Nat.lcm 1 1 else 1) = 1
      split <;> rfl
    rw [e] at h
    exact h
  · intro k j hj
    obtain ⟨c1, c2⟩ := hc (j + 2) (by omega)
    have hm := hlt (j + 1) (by omega)
    have hm2 := hlt (j + 2) (by omega)
    have e : lcT (fun n => decide (0 < c n)) (j + 2) = if decide (0 < c (j + 2)) = true then Nat.lcm (lcT (fun n => decide (0 < c n)) (j + 1)) (j + 2) else lcT (fun n => decide (0 < c n)) (j + 1) := rfl
    show fX4_cycleMultiple_4 (k + 1) 113 (nI _) (nI (j + 2)) (qH A S) = fX4_cycleMultiple_4 k 113 (nI (lcT (fun n => decide (0 < c n)) (j + 2))) (nI (j + 2 + 1)) (qH A S)
    rw [fX4_cycleMultiple_4, if_neg (by rw [qlit, nI_ltI (by decide) (by omega)]; omega), gr_113_1, q_bs, q_ai ql_114 (by omega), q_bs, c1]
    by_cases c3 : c (j + 2) = 0
    · rw [if_pos (by rw [c3]; decide), e, if_neg (by simp [c3])]
      unfold fX4_cycleMultiple_28
      rw [if_pos (by decide), nI_1]
    · have hg := st_gcd (A := A) (S := S) hm (show j + 2 < 2 ^ 31 by omega) (by omega) (j + 2) FU (by unfold FU; omega) (Nat.le_of_dvd (by omega) (Nat.gcd_dvd_right _ _)) (Nat.le_refl _)
      have g0 : 0 < Nat.gcd (lcT (fun n => decide (0 < c n)) (j + 1)) (j + 2) := Nat.gcd_pos_of_pos_right _ (by omega)
      have g1 : Nat.gcd (lcT (fun n => decide (0 < c n)) (j + 1)) (j + 2) ≤ j + 2 := Nat.le_of_dvd (by omega) (Nat.gcd_dvd_right _ _)
      rw [if_neg (by rw [qlit, nI_leI c2 (by decide)]; omega), e, if_pos (by simp; omega)]
      unfold fX4_commonDivisor
      rw [hg, q_cal, q_vi]
      unfold fX4_cycleMultiple_28
      rw [if_neg (by rw [qlit, nI_leI (by omega) (by decide)]; omega), if_neg (by rw [qlit, nI_eq (by omega) (by decide)]; omega), pk_div hm g0 (by omega), pk_mul, lcm_way, nI_1]
  · intro k
    show fX4_cycleMultiple_4 (k + 1) 113 (nI _) (nI 65) (qH A S) = _
    rw [fX4_cycleMultiple_4, if_pos (by decide)]
end QO
