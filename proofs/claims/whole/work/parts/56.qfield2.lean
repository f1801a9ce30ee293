/-! the component's field at work -/
section QF
variable {A : AS} {S : SS} {f a b x n : Nat}
theorem tc_sum (hf : f < nF) (hT : TabC f S) (ha : a < qF f) (hb : b < qF f) : fX0_sum 1 (nI a) (nI b) (qH A S) = some (.inl (some (.int (nI (ad f a b)))), qH A S) := by
  have h := (fF f hf).1
  rw [sX0_sum (by omega) (by omega), hT.1 a b ha hb]
theorem tc_mul (hf : f < nF) (hT : TabC f S) (ha : a < qF f) (hb : b < qF f) : fX0_product 1 (nI a) (nI b) (qH A S) = some (.inl (some (.int (nI (mu f a b)))), qH A S) := by
  have h := (fF f hf).1
  rw [sX0_product (by omega) (by omega), hT.2.2.1 a b ha hb]
theorem tc_dif (hf : f < nF) (hT : TabC f S) (ha : a < qF f) (hb : b < qF f) : fX0_difference 1 (nI a) (nI b) (qH A S) = some (.inl (some (.int (nI (ad f a (ng f b))))), qH A S) := by
  have h := (fF f hf).1
  have h1 := ng_lt hf hb
  have h2 := hT.2.1 b hb
  have h3 := hT.1 a _ ha h1
  unfold fX0_difference
  simp (disch := omega) only [q_cal, q_car, q_cv, q_vi, q_vj, q_vr, q_vn, q_b2, q_let, q_letJ, q_bs, gr_0_0, gr_0_1, gr_0_2, gr_0_3, gr_0_4, gr_0_5, gr_0_6, gr_0_7, gi_0_8, pi_0_8, ob_0, gi_1_0, pi_1_0, gi_1_1, pi_1_1, gi_1_2, pi_1_2, gi_1_3, pi_1_3, gr_1_4, gr_1_5, gr_1_6, gr_1_7, gr_1_8, ob_1, gi_23_0, pi_23_0, gi_23_1, pi_23_1, gr_23_2, ob_23, gi_94_0, pi_94_0, gi_94_1, pi_94_1, gr_94_2, gr_94_3, gr_94_4, gr_94_5, gr_94_6, gr_94_7, ob_94, gi_113_0, pi_113_0, gr_113_1, gr_113_2, gr_113_3, gr_113_4, gr_113_5, ob_113, gi_89_0, pi_89_0, gi_89_1, pi_89_1, gi_89_2, pi_89_2, gi_89_3, pi_89_3, gr_89_4, gr_89_5, gr_89_6, gr_89_7, gi_89_8, pi_89_8, ob_89, gi_119_0, pi_119_0, gr_119_1, gi_119_2, pi_119_2, gi_119_3, pi_119_3, gi_119_4, pi_119_4, gi_119_5, pi_119_5, gi_119_6, pi_119_6, gi_119_7, pi_119_7, gr_119_8, gr_119_9, gr_119_10, gr_119_11, gi_119_12, pi_119_12, gi_119_13, pi_119_13, gi_119_14, pi_119_14, gi_119_15, pi_119_15, gi_119_16, pi_119_16, gr_119_17, gr_119_18, gr_119_19, gr_119_20, gr_119_21, gi_119_22, pi_119_22, gi_119_23, pi_119_23, gr_119_24, gr_119_25, gr_119_26, gr_119_27, ob_119, ai_2, si_2, ai_3, si_3, ai_4, si_4, ai_5, si_5, ai_6, si_6, ai_115, si_115, ai_116, si_116, ai_117, si_117, ai_263, si_263, ai_264, si_264, ai_266, si_266, ai_267, si_267, ai_268, si_268, ai_269, si_269, ai_90, si_90, ai_91, si_91, ai_92, si_92, ai_93, si_93, ai_114, si_114, ai_118, si_118, ai_120, si_120, ai_121, si_121, ai_122, si_122, ai_123, si_123, ai_265, si_265, ar_95, ar_101, ar_107, ar_133, ar_198, ar_124, ar_24, qlit, nI_add, pk_mul, pk_div, q_rem, q_modN, nI_ltI, nI_leI, nI_eq, h2, h3]
theorem q_half {n : Nat} (h : n < 2 ^ 31) : nI n >>> ((1 : Int32) &&& 31) = nI (n / 2) := pk_shrN h _ 1 (by decide)
theorem q_odd {n : Nat} (h : n < 2 ^ 31) : nI n &&& 1 = nI (n % 2) := pk_andN (by omega) 1 (by decide)
theorem tc_raise (hf : f < nF) (hT : TabC f S) : ∀ k n v s, n < k → n < 2 ^ 31 → v < qF f → s < qF f → fX0_raised_8 k 1 (nI v) (nI s) (nI n) (qH A S) = some (.inl (some (.int (nI (mu f v (pw f s n))))), qH A S) := by
  intro k
  induction k with
  | zero => intro n v s h; omega
  | succ k ih =>
    intro n v s hn hn2 hv hs
    rw [fX0_raised_8]
    by_cases c0 : n = 0
    · subst c0
      rw [if_pos (by decide)]
      show _ = some (Sum.inl (some (Value.int (nI (mu f v 1)))), qH A S)
      rw [(mu_0 hf hv).2]
    · have c1 : ¬ n ≤ 0 := by omega
      have e0 : ¬ nI n ≤ 0 := by rw [qlit, nI_leI hn2 (by decide)]; exact c1
      rw [if_neg e0, q_odd hn2]
      have hss := mu_lt hf hs hs
      have pss : ∀ j, pw f (mu f s s) j = pw f s (2 * j) := by
        intro j
        induction j with
        | zero => rfl
        | succ j ih =>
          show mu f (pw f (mu f s s) j) (mu f s s) = mu f (mu f (pw f s (2 * j)) s) s
          rw [ih, mu_assoc hf (pw_lt hf hs _) hs hs]
      have step : ∀ w, w < qF f → fX0_raised_29 (fun p0 p3 p4 p5 h => fX0_raised_8 k p0 p3 p4 p5 h) 1 (nI w) (nI s) (nI n) (qH A S) = some (.inl (some (.int (nI (mu f w (pw f s (2 * (n / 2))))))), qH A S) := by
        intro w hw
        unfold fX0_raised_29
        simp only [ob_1, q_cv, tc_mul hf hT hs hs, q_cal, q_vi, q_half hn2]
        rw [ih (n / 2) w (mu f s s) (by omega) (by omega) hw hss, pss]
      by_cases c2 : n % 2 = 1
      · rw [c2, if_pos (by rfl)]
        simp only [ob_1, q_cv, tc_mul hf hT hv hs, q_cal, q_vi]
        rw [step _ (mu_lt hf hv hs), mu_assoc hf hv hs (pw_lt hf hs _), mu_comm hf hs (pw_lt hf hs _)]
        have : n = 2 * (n / 2) + 1 := by omega
        rw [show mu f (pw f s (2 * (n / 2))) s = pw f s (2 * (n / 2) + 1) from rfl, ← this]
      · have c3 : n % 2 = 0 := by omega
        rw [c3, if_neg (by decide), step v hv]
        have : n = 2 * (n / 2) := by omega
        rw [← this]
theorem tc_raised (hf : f < nF) (hT : TabC f S) (hn : n < 20000) (ha : a < qF f) : fX0_raised 1 (nI a) (nI n) (qH A S) = some (.inl (some (.int (nI (pw f a n)))), qH A S) := by
  unfold fX0_raised
  have h := tc_raise (A := A) hf hT FU n 1 a (by unfold FU; exact hn) (by omega) (q1 hf) ha
  rw [(mu_0 hf (pw_lt hf ha n)).1.2] at h
  exact h
theorem q_bit {n j : Nat} (hn : n < 2 ^ 31) (hj : j < 31) : (nI n >>> (nI j &&& 31)) &&& 1 = nI (n / 2 ^ j % 2) := by
  rw [pk_shrN hn (nI j &&& 31) j (s_l j (by omega)), q_odd (Nat.lt_of_le_of_lt (Nat.div_le_self _ _) hn)]
theorem tc_dk (hf : f < nF) (hT : TabC f S) (ha : a < qF f) (hx : x < qF f) (hn : n < 2 ^ 14) : ∀ j k, j ≤ 14 → j < k →
    fX0_dicksonAt_18 k 1 (nI n) (nI a) (nI x) (nI (dk f a x (n / 2 ^ j))) (nI (dk f a x (n / 2 ^ j + 1))) (nI (pw f a (n / 2 ^ j))) (nI j + (-1)) (qH A S) = some (.inl (some (.int (nI (dk f a x n)))), qH A S) := by
  intro j
  induction j with
  | zero =>
    intro k h1 h2
    obtain ⟨k, rfl⟩ : ∃ k', k = k' + 1 := ⟨k - 1, by omega⟩
    rw [fX0_dicksonAt_18, if_pos (by decide), Nat.pow_zero, Nat.div_one]
  | succ j ih =>
    intro k h1 h2
    obtain ⟨k, rfl⟩ : ∃ k', k = k' + 1 := ⟨k - 1, by omega⟩
    have L := fun m => dk_lt hf ha hx m
    have Pl := fun m => pw_lt hf ha m
    have hh : n / 2 ^ j / 2 = n / 2 ^ (j + 1) := by rw [Nat.div_div_eq_div_mul, Nat.pow_succ]
    generalize hu : n / 2 ^ (j + 1) = u at hh ⊢
    obtain ⟨d1, d2⟩ := dk_dbl hf ha hx u
    obtain ⟨d3, d4⟩ := dk_dbl hf ha hx (u + 1)
    have hp2 : pw f a (2 * u) = mu f (pw f a u) (pw f a u) := by rw [← pw_add hf ha, Nat.two_mul]
    rw [fX0_dicksonAt_18, pk_m1, if_neg (nI_pos (by omega)), q_bit (by omega) (by omega)]
    simp only [ob_1, q_cv, tc_mul hf hT (L u) (L (u + 1)), tc_mul hf hT (Pl u) hx, q_cal, q_vi, tc_dif hf hT (mu_lt hf (L u) (L (u + 1))) (mu_lt hf (Pl u) hx), tc_mul hf hT (Pl u) (Pl u)]
    rw [← d2, ← hp2]
    by_cases c : n / 2 ^ j % 2 = 0
    · have e : n / 2 ^ j = 2 * u := by omega
      rw [c, if_pos (by rfl)]
      simp only [ob_1, q_cv, tc_mul hf hT (L u) (L u), tc_sum hf hT (Pl u) (Pl u), q_cal, q_vi, tc_dif hf hT (mu_lt hf (L u) (L u)) (ad_lt hf (Pl u) (Pl u))]
      rw [← d1]
      have := ih k (by omega) (by omega)
      rw [e] at this
      exact this
    · have c1 : n / 2 ^ j % 2 = 1 := by omega
      have e : n / 2 ^ j = 2 * u + 1 := by omega
      have l2 := mu_lt hf (Pl u) ha
      rw [c1, if_neg (by decide)]
      simp only [ob_1, q_cv, tc_mul hf hT (Pl u) ha, tc_mul hf hT (L (u + 1)) (L (u + 1)), tc_sum hf hT l2 l2, q_cal, q_vi, tc_dif hf hT (mu_lt hf (L (u + 1)) (L (u + 1))) (ad_lt hf l2 l2), tc_mul hf hT (Pl (2 * u)) ha]
      have := ih k (by omega) (by omega)
      rw [e, show 2 * u + 1 + 1 = 2 * (u + 1) by omega, d3] at this
      exact this
theorem tc_dickson (hf : f < nF) (hT : TabC f S) (hn : n < 2 ^ 14) (ha : a < qF f) (hx : x < qF f) : fX0_dicksonAt 1 (nI n) (nI a) (nI x) (qH A S) = some (.inl (some (.int (nI (dk f a x n)))), qH A S) := by
  unfold fX0_dicksonAt
  have h1 := tc_sum (A := A) hf hT (q1 hf) (q1 hf)
  have h := tc_dk (A := A) hf hT ha hx hn 14 FU (by decide) (by unfold FU; decide)
  have e13 : nI 14 + (-1) = 13 := by decide
  rw [Nat.div_eq_of_lt hn, e13, show dk f a x 0 = ad f 1 1 from rfl, show dk f a x (0 + 1) = x from rfl, show pw f a 0 = 1 from rfl, show nI 1 = 1 from rfl] at h
  simp only [ob_1, q_cv]
  rw [show fX0_sum 1 1 1 (qH A S) = _ from h1, q_cal, q_vi]
  exact h
end QF
