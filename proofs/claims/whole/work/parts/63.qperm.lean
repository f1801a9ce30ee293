/-! what permutes: cycles -/
theorem itf_add (R : Nat → Nat) : ∀ a b x, itf R (a + b) x = itf R b (itf R a x)
  | 0, b, x => by rw [Nat.zero_add]; rfl
  | a + 1, b, x => by rw [show a + 1 + b = (a + b) + 1 by omega, itf, itf, itf_add R a b]
theorem itf_s (R : Nat → Nat) (n x : Nat) : itf R (n + 1) x = R (itf R n x) := by rw [itf_add R n 1]; rfl
theorem li_ok {R : Nat → Nat} : ∀ n y, (∃ x, x < n ∧ R x = y) → liF R n y < n ∧ R (liF R n y) = y
  | 0, _, h => by obtain ⟨x, h, -⟩ := h; omega
  | n + 1, y, h => by
    unfold liF
    by_cases e : R n = y
    · rw [if_pos e]; exact ⟨by omega, e⟩
    · rw [if_neg e]
      obtain ⟨x, h1, h2⟩ := h
      have : x < n := by
        by_cases e2 : x = n
        · subst e2; exact absurd h2 e
        · omega
      obtain ⟨h3, h4⟩ := li_ok n y ⟨x, this, h2⟩
      exact ⟨by omega, h4⟩
section QP
variable {q : Nat} {R : Nat → Nat}
theorem pm_on (h : pmB q R = true) {y : Nat} (hy : y < q) : ∃ x, x < q ∧ R x = y := by
  unfold pmB at h
  have h1 : img q R = q := by simpa using h
  unfold img at h1
  exact (ms_bit y q).mp (fb_ct_all.mp h1 y hy)
theorem pm_of (h : ∀ y, y < q → ∃ x, x < q ∧ R x = y) : pmB q R = true := by
  unfold pmB img
  simp only [beq_iff_eq]
  exact fb_ct_all.mpr (fun y hy => (ms_bit y q).mpr (h y hy))
theorem pm_inj (h : pmB q R = true) {x y : Nat} (hx : x < q) (hy : y < q) (e : R x = R y) : x = y := by
  have li : ∀ v, v < q → liF R q v < q ∧ R (liF R q v) = v := fun v hv => li_ok q v (pm_on h hv)
  have onto : ∀ z, z < q → ∃ v, v < q ∧ liF R q v = z := fun z hz => fb_onto (fun v hv => (li v hv).1) (fun i j hij hj e => by
    have h1 := (li i (by omega)).2
    have h2 := (li j hj).2
    rw [e, h2] at h1
    omega) hz
  obtain ⟨v, v1, v2⟩ := onto x hx
  obtain ⟨w, w1, w2⟩ := onto y hy
  have h1 := (li v v1).2
  have h2 := (li w w1).2
  rw [v2] at h1
  rw [w2] at h2
  have : v = w := by omega
  rw [← v2, ← w2, this]
theorem it_inj (h : pmB q R = true) (hR : ∀ x, x < q → R x < q) : ∀ n {x y : Nat}, x < q → y < q → itf R n x = itf R n y → x = y
  | 0, _, _, _, _, e => e
  | n + 1, x, y, hx, hy, e => pm_inj h hx hy (it_inj h hR n (hR x hx) (hR y hy) e)
/-- the cycle's length -/
theorem cy_len (h : pmB q R = true) (hR : ∀ x, x < q → R x < q) {s : Nat} (hs : s < q) : ∃ L, 1 ≤ L ∧ L ≤ q ∧ itf R L s = s ∧ ∀ i, 1 ≤ i → i < L → itf R i s ≠ s := by
  obtain ⟨i, j, h1, h2, h3⟩ := fb_twice (m := q) (n := q + 1) (f := fun i => itf R i s) (fun i _ => itf_lt hR i s hs) (by omega)
  have e : j = (j - i) + i := by omega
  have h4 : itf R (j - i) s = s := by
    have h5 : itf R i (itf R (j - i) s) = itf R i s := by rw [← itf_add, ← e]; exact h3.symm
    exact it_inj h hR i (itf_lt hR _ s hs) hs h5
  obtain ⟨L, l1, l2, l3⟩ := fb_first (p := fun n => 1 ≤ n ∧ itf R n s = s) (n := q + 1) ⟨j - i, by omega, by omega, h4⟩
  exact ⟨L, l2.1, by omega, l2.2, fun i hi1 hi2 hc => l3 i hi2 ⟨hi1, hc⟩⟩
/-- the Model's way: from x on till x again, or a smaller one -/
def cyA (R : Nat → Nat) (x : Nat) : Nat → Nat → Nat → Nat
  | 0, _, _ => 0
  | k + 1, n, y => if y = x then n else if y < x then 0 else cyA R x k (n + 1) (R y)
def cyc (q : Nat) (R : Nat → Nat) (x : Nat) : Nat := cyA R x (q + 1) 1 (R x)
theorem cyA_yes {s L : Nat} (h1 : itf R L s = s) (h2 : ∀ i, 1 ≤ i → i < L → s < itf R i s) : ∀ k n, 1 ≤ n → n ≤ L → L - n < k → cyA R s k n (itf R n s) = L := by
  intro k
  induction k with
  | zero => intro n _ _ h; omega
  | succ k ih =>
    intro n hn hn2 hk
    unfold cyA
    by_cases e : n = L
    · rw [e, if_pos h1]
    · have := h2 n hn (by omega)
      rw [if_neg (by omega), if_neg (by omega), ← itf_s R n s]
      exact ih (n + 1) (by omega) (by omega) (by omega)
theorem cyA_no {s L : Nat} (h1 : ∀ i, 1 ≤ i → i < L → itf R i s ≠ s) : ∀ k n, 1 ≤ n → (∃ i, n ≤ i ∧ i < L ∧ itf R i s < s) → cyA R s k n (itf R n s) = 0 := by
  intro k
  induction k with
  | zero => intro n _ _; rfl
  | succ k ih =>
    rintro n hn ⟨i, i1, i2, i3⟩
    unfold cyA
    rw [if_neg (h1 n hn (by omega))]
    by_cases e : itf R n s < s
    · rw [if_pos e]
    · rw [if_neg e, ← itf_s R n s]
      refine ih (n + 1) (by omega) ⟨i, ?_, i2, i3⟩
      by_cases e2 : i = n
      · subst e2; exact absurd i3 e
      · omega
theorem it_mul {s L : Nat} (h : itf R L s = s) : ∀ n, itf R (n * L) s = s
  | 0 => by rw [Nat.zero_mul]; rfl
  | n + 1 => by rw [Nat.succ_mul, itf_add, it_mul h n, h]
/-- met by a smaller one, or not -/
theorem cyc_two (h : pmB q R = true) (hR : ∀ x, x < q → R x < q) {s : Nat} (hs : s < q) :
    ((∃ z, z < s ∧ ∃ n, itf R n z = s) ∧ cyc q R s = 0) ∨ ((¬ ∃ z, z < s ∧ ∃ n, itf R n z = s) ∧ 1 ≤ cyc q R s ∧ cyc q R s ≤ q ∧ itf R (cyc q R s) s = s ∧ (∀ i, 1 ≤ i → i < cyc q R s → s < itf R i s)) := by
  obtain ⟨L, l1, l2, l3, l4⟩ := cy_len h hR hs
  have back : ∀ n z, itf R n z = s → z < q → ∃ m, itf R m s = z := by
    intro n z hz hzq
    obtain ⟨M, m1, m2, m3, -⟩ := cy_len h hR hzq
    refine ⟨n * M - n, ?_⟩
    have hle : n ≤ n * M := Nat.le_mul_of_pos_right n (by omega)
    rw [← hz, ← itf_add, show n + (n * M - n) = n * M by omega]
    exact it_mul m3 n
  have red : ∀ m, ∃ i, i < L ∧ itf R i s = itf R m s := by
    intro m
    refine ⟨m % L, Nat.mod_lt _ (by omega), ?_⟩
    have e : m = (m / L) * L + m % L := by rw [Nat.mul_comm]; exact (Nat.div_add_mod m L).symm
    rw [e, itf_add, it_mul l3, ← e]
  by_cases c : ∃ i, 1 ≤ i ∧ i < L ∧ itf R i s < s
  · obtain ⟨i, i1, i2, i3⟩ := c
    left
    refine ⟨⟨itf R i s, i3, L - i, ?_⟩, cyA_no l4 (q + 1) 1 (Nat.le_refl _) ⟨i, i1, i2, i3⟩⟩
    rw [← itf_add, show i + (L - i) = L by omega, l3]
  · right
    have big : ∀ i, 1 ≤ i → i < L → s < itf R i s := fun i i1 i2 => by
      have h1 := l4 i i1 i2
      have h2 : ¬ itf R i s < s := fun h => c ⟨i, i1, i2, h⟩
      omega
    have e : cyc q R s = L := cyA_yes l3 big (q + 1) 1 (Nat.le_refl _) l1 (by omega)
    rw [e]
    refine ⟨?_, l1, l2, l3, big⟩
    rintro ⟨z, z1, n, z2⟩
    obtain ⟨m, hm⟩ := back n z z2 (by omega)
    obtain ⟨i, i1, i2⟩ := red m
    by_cases e0 : i = 0
    · subst e0
      rw [hm] at i2
      have : s = z := i2
      omega
    · have := big i (by omega) i1
      rw [i2, hm] at this
      omega
end QP
