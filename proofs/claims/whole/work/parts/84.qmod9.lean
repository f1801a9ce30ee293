/-! the reference's cycles and orders -/
section QMI
variable {A : AS} {S : SS} {f i : Nat} {R : Nat → Nat}
theorem m_cy10 (hf : f < nF) (hi : i < 6) (hr : nowR f S i R) {x : Nat} (hx : x < qF f) : ∀ k K n y, (∃ j, j < k ∧ itf R j y ≤ x) → k ≤ K → y < qF f → fX7_cycleOf_10 K 119 (nI i) (nI x) (nI n) (nI y) (qH A S) = some (.inl (some (.int (nI (cyA R x k n y)))), qH A S) := by
  have hq := qz hf
  intro k
  induction k with
  | zero => rintro K n y ⟨j, h, -⟩; omega
  | succ k ih =>
    rintro K n y ⟨j, h1, h2⟩ hK hy
    obtain ⟨K, rfl⟩ : ∃ k', K = k' + 1 := ⟨K - 1, by omega⟩
    rw [fX7_cycleOf_10, cyA]
    by_cases c1 : y = x
    · rw [if_pos (by rw [c1]), if_pos c1]
    · rw [if_neg (by rw [nI_eq (by omega) (by omega)]; exact c1), if_neg c1]
      by_cases c2 : y < x
      · rw [if_neg (by rw [nI_leI (by omega) (by omega)]; omega), if_pos c2]
        rfl
      · rw [if_pos (by rw [nI_leI (by omega) (by omega)]; omega), if_neg c2, ob_119, q_cv, m_at hf hi hr hy, q_cal, q_vi, nI_1]
        refine ih K (n + 1) (R y) ?_ (by omega) (hr y hy).2
        cases j with
        | zero => have : y ≤ x := h2; omega
        | succ j => exact ⟨j, by omega, h2⟩
theorem m_cyc (hf : f < nF) (hi : i < 6) (hr : nowR f S i R) (hp : pmB (qF f) R = true) {x : Nat} (hx : x < qF f) : fX7_cycleOf 119 (nI i) (nI x) (qH A S) = some (.inl (some (.int (nI (cyc (qF f) R x)))), qH A S) := by
  have hq := qz hf
  have hR : ∀ x, x < qF f → R x < qF f := fun x hx => (hr x hx).2
  obtain ⟨L, l1, l2, l3, l4⟩ := cy_len hp hR hx
  unfold fX7_cycleOf
  rw [ob_119, q_cv, m_at hf hi hr hx, q_cal, q_vi]
  refine m_cy10 hf hi hr hx (qF f + 1) FU 1 (R x) ⟨L - 1, by omega, ?_⟩ (by unfold FU; omega) (hR x hx)
  have e : itf R ((L - 1) + 1) x = x := by rw [show L - 1 + 1 = L by omega]; exact l3
  exact Nat.le_of_eq e
theorem cyc_le (hp : pmB (qF f) R = true) (hR : ∀ x, x < qF f → R x < qF f) {x : Nat} (hx : x < qF f) : cyc (qF f) R x ≤ qF f := by
  rcases cyc_two hp hR hx with ⟨-, h⟩ | ⟨-, -, h, -⟩ <;> omega
theorem m_cycles (hf : f < nF) (hz : S.1 119 15 = nI (qF f)) (hi : i < 6) (hr : nowR f S i R) (hp : pmB (qF f) R = true) {n : Nat} (hn : n < 2 ^ 31) : fX7_cyclesOf 119 (nI i) (nI n) (qH A S) = some (.inl (some (.int (nI (if n = 0 then ctF (qF f) R (qF f) else ccF (qF f) R (qF f) n)))), qH A S) := by
  have hq := qz hf
  have hR : ∀ x, x < qF f → R x < qF f := fun x hx => (hr x hx).2
  unfold fX7_cyclesOf
  have h := loopF0 (fun k x c => fX7_cyclesOf_5 k 119 (nI i) (nI n) (nI c) (nI x) (qH A S)) (qF f) (fun x => if n = 0 then ctF (qF f) R x else ccF (qF f) R x n) (some (.inl (some (.int (nI (if n = 0 then ctF (qF f) R (qF f) else ccF (qF f) R (qF f) n)))), qH A S)) (by omega) ?_ ?_
  · by_cases c : n = 0
    · simp only [if_pos c] at h ⊢
      exact h
    · simp only [if_neg c] at h ⊢
      simp only [ccF, if_neg c] at h ⊢
      exact h
  · intro k x hx
    have hc := cyc_le hp hR hx
    show fX7_cyclesOf_5 (k + 1) 119 (nI i) (nI n) _ (nI x) (qH A S) = fX7_cyclesOf_5 k 119 (nI i) (nI n) _ (nI (x + 1)) (qH A S)
    rw [fX7_cyclesOf_5, gi_119_15, q_bs, hz, if_neg (by rw [nI_leI (by omega) (by omega)]; omega)]
    simp only [ob_119, q_cv, m_cyc hf hi hr hp hx, q_cal, q_vi, nI_1]
    by_cases c : n = 0
    · rw [if_pos (by rw [c]; rfl), if_pos c, if_pos c, ctF, ctF, fb_ct_succ]
      by_cases e : cyc (qF f) R x = 0
      · rw [if_pos (by rw [e]; decide), if_neg (by simp [e]), show (0 : Int32) = nI 0 from rfl, nI_add]
      · rw [if_neg (by rw [qlit, nI_leI (by omega) (by decide)]; omega), if_pos (by simp [e])]
    · rw [if_neg (by rw [qlit, nI_eq (by omega) (by decide)]; exact c), if_neg c, if_neg c, ccF, ccF, if_neg c, if_neg c, fb_ct_succ]
      by_cases e : cyc (qF f) R x = n
      · rw [if_pos (by rw [e]), if_pos (by simp [e])]
      · rw [if_neg (by rw [nI_eq (by omega) hn]; exact e), if_neg (by simp [e]), show (0 : Int32) = nI 0 from rfl, nI_add]
  · intro k
    show fX7_cyclesOf_5 (k + 1) 119 (nI i) (nI n) _ (nI (qF f)) (qH A S) = _
    rw [fX7_cyclesOf_5, gi_119_15, q_bs, hz, if_pos (by rw [nI_leI (by omega) (by omega)]; exact Nat.le_refl _)]
theorem m_gcd : ∀ K a b, a < 2 ^ 31 → b < 2 ^ 31 → b < K → fX7_common_4 K (nI a) (nI b) (qH A S) = some (.inl (some (.int (nI (Nat.gcd a b)))), qH A S) := by
  intro K
  induction K with
  | zero => intro a b _ _ h; omega
  | succ K ih =>
    intro a b ha hb hK
    rw [fX7_common_4]
    by_cases c : b = 0
    · rw [if_pos (by rw [c]; rfl), c, Nat.gcd_zero_right]
    · have c9 : ¬ nI b = 0 := nI_ne0 (by omega) hb
      have hl := Nat.mod_lt a (show 0 < b by omega)
      rw [if_neg c9, if_neg c9, pk_rem ha (by omega) hb, ih b (a % b) hb (by omega) (by omega), Nat.gcd_comm b, ← Nat.gcd_rec, Nat.gcd_comm]
/-- the least common multiple over the first so many points -/
def loM (q : Nat) (R : Nat → Nat) : Nat → Nat
  | 0 => 1
  | s + 1 => if cyc q R s = 0 then loM q R s else Nat.lcm (loM q R s) (cyc q R s)
theorem lo_pos (q : Nat) (R : Nat → Nat) : ∀ s, 0 < loM q R s
  | 0 => Nat.one_pos
  | s + 1 => by
    unfold loM
    split
    · exact lo_pos q R s
    · exact Nat.lcm_pos (lo_pos q R s) (by omega)
theorem lo_dvd (q : Nat) (R : Nat → Nat) (v : Nat) : ∀ s, (∀ x, x < s → cyc q R x ≠ 0 → cyc q R x ∣ v) → loM q R s ∣ v
  | 0, _ => Nat.one_dvd v
  | s + 1, h => by
    unfold loM
    split
    · exact lo_dvd q R v s (fun x hx => h x (by omega))
    · rename_i c
      exact Nat.lcm_dvd (lo_dvd q R v s (fun x hx => h x (by omega))) (h s (by omega) c)
theorem dvd_lo (q : Nat) (R : Nat → Nat) : ∀ s x, x < s → cyc q R x ≠ 0 → cyc q R x ∣ loM q R s
  | 0, _, h, _ => by omega
  | s + 1, x, h, h0 => by
    unfold loM
    by_cases e : x = s
    · subst e
      rw [if_neg h0]
      exact Nat.dvd_lcm_right _ _
    · have ih := dvd_lo q R s x (by omega) h0
      split
      · exact ih
      · exact Nat.dvd_trans ih (Nat.dvd_lcm_left _ _)
theorem lcT_all (P : Nat → Bool) (v : Nat) : ∀ n, (∀ m, 1 ≤ m → m ≤ n → P m = true → m ∣ v) → lcT P n ∣ v
  | 0, _ => Nat.one_dvd v
  | n + 1, h => by
    unfold lcT
    split
    · rename_i c
      exact Nat.lcm_dvd (lcT_all P v n (fun m h1 h2 => h m h1 (by omega))) (h (n + 1) (by omega) (Nat.le_refl _) c)
    · exact lcT_all P v n (fun m h1 h2 => h m h1 (by omega))
theorem all_lcT (P : Nat → Bool) : ∀ n m, 1 ≤ m → m ≤ n → P m = true → m ∣ lcT P n
  | 0, m, h1, h2, _ => by omega
  | n + 1, m, h1, h2, h => by
    unfold lcT
    by_cases e : m = n + 1
    · subst e
      rw [if_pos h]
      exact Nat.dvd_lcm_right _ _
    · have ih := all_lcT P n m h1 (by omega) h
      split
      · exact Nat.dvd_trans ih (Nat.dvd_lcm_left _ _)
      · exact ih
theorem lo_eq (hf : f < nF) (hp : pmB (qF f) R = true) (hR : ∀ x, x < qF f → R x < qF f) : loM (qF f) R (qF f) = lcT (fun n => decide (0 < ccF (qF f) R (qF f) n)) 64 := by
  have hq := qz hf
  apply Nat.dvd_antisymm
  · apply lo_dvd
    intro x hx h0
    have hc := cyc_le hp hR hx
    apply all_lcT _ 64 _ (by omega) (by omega)
    rw [decide_eq_true_eq, ccF, if_neg h0, fb_ct_pos]
    exact ⟨x, hx, by simp⟩
  · apply lcT_all
    intro m h1 h2 h
    rw [decide_eq_true_eq, ccF, if_neg (by omega), fb_ct_pos] at h
    obtain ⟨x, hx, e⟩ := h
    have e' : cyc (qF f) R x = m := by simpa using e
    rw [← e']
    exact dvd_lo _ _ _ x hx (by omega)
theorem m_order (hf : f < nF) (hz : S.1 119 15 = nI (qF f)) (hi : i < 6) (hr : nowR f S i R) (hp : pmB (qF f) R = true) : fX7_order_20 FU 119 (nI i) 1 0 (qH A S) = some (.inl (some (.int (nI (lcT (fun n => decide (0 < ccF (qF f) R (qF f) n)) 64)))), qH A S) := by
  have hq := qz hf
  have hR : ∀ x, x < qF f → R x < qF f := fun x hx => (hr x hx).2
  have hbig : lcT (fun n => decide (0 < ccF (qF f) R (qF f) n)) 64 < 2 ^ 31 := by
    refine lcT_lt _ (by decide) ?_
    have h1 := smT_cy (q := qF f) (R := R) 64 (qF f)
    have h2 := cy_le hp hR
    omega
  have hlo : ∀ s, s ≤ qF f → loM (qF f) R s < 2 ^ 31 := fun s hs => by
    rw [← lo_eq hf hp hR] at hbig
    have hd : loM (qF f) R s ∣ loM (qF f) R (qF f) := lo_dvd _ _ _ s (fun x hx h0 => dvd_lo _ _ _ x (by omega) h0)
    have := Nat.le_of_dvd (lo_pos _ _ _) hd
    omega
  rw [← lo_eq hf hp hR]
  have h := loopF0 (fun k x c => fX7_order_20 k 119 (nI i) (nI c) (nI x) (qH A S)) (qF f) (fun x => loM (qF f) R x) (some (.inl (some (.int (nI (loM (qF f) R (qF f))))), qH A S)) (by omega) ?_ ?_
  · exact h
  · intro k x hx
    have hc := cyc_le hp hR hx
    have hl := hlo x (by omega)
    show fX7_order_20 (k + 1) 119 (nI i) (nI (loM (qF f) R x)) (nI x) (qH A S) = fX7_order_20 k 119 (nI i) (nI (if cyc (qF f) R x = 0 then loM (qF f) R x else Nat.lcm (loM (qF f) R x) (cyc (qF f) R x))) (nI (x + 1)) (qH A S)
    rw [fX7_order_20, gi_119_15, q_bs, hz, if_neg (by rw [nI_leI (by omega) (by omega)]; omega), ob_119, q_cv, m_cyc hf hi hr hp hx, q_cal, q_vi, nI_1]
    by_cases e : cyc (qF f) R x = 0
    · rw [if_pos (by rw [e]; decide), if_pos e]
    · have g0 : 0 < Nat.gcd (loM (qF f) R x) (cyc (qF f) R x) := Nat.gcd_pos_of_pos_right _ (by omega)
      have g1 : Nat.gcd (loM (qF f) R x) (cyc (qF f) R x) ≤ cyc (qF f) R x := Nat.gcd_le_right _ (by omega)
      rw [if_neg (by rw [qlit, nI_leI (by omega) (by decide)]; omega), if_neg e]
      unfold fX7_common
      rw [m_gcd FU _ _ hl (by omega) (by unfold FU; omega), q_cal, q_vi, if_neg (nI_ne0 g0 (by omega)), pk_div hl g0 (by omega), pk_mul, lcm_way]
  · intro k
    show fX7_order_20 (k + 1) 119 (nI i) _ (nI (qF f)) (qH A S) = _
    rw [fX7_order_20, gi_119_15, q_bs, hz, if_pos (by rw [nI_leI (by omega) (by omega)]; exact Nat.le_refl _)]
end QMI
