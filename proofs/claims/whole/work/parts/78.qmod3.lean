/-! the reference's sums of digits -/
/-- the number of the digits g 0, .., g (m - 1) -/
def nuM (p : Nat) (g : Nat → Nat) : Nat → Nat → Nat
  | 0, v => v
  | i + 1, v => nuM p g i (v * p + g i)
theorem nu_b {p : Nat} {g : Nat → Nat} (hp : 0 < p) : ∀ i v, (∀ j, j < i → g j < p) → nuM p g i v < (v + 1) * p ^ i
  | 0, v, _ => by show v < (v + 1) * 1; omega
  | i + 1, v, h => by
    have ih := nu_b hp i (v * p + g i) (fun j hj => h j (by omega))
    have hg := h i (by omega)
    have e : (v * p + g i + 1) * p ^ i ≤ (v + 1) * p ^ (i + 1) := by
      rw [Nat.pow_succ, Nat.mul_comm (p ^ i) p, ← Nat.mul_assoc]
      exact Nat.mul_le_mul_right _ (by rw [Nat.add_mul]; omega)
    exact Nat.lt_of_lt_of_le ih e
section QMC
variable {A : AS} {S : SS} {p m : Nat}
theorem m_num9 (hp : 2 ≤ p) (hp2 : p ≤ 64) (hP : S.1 119 13 = nI p) {g : Nat → Nat} (hm : m ≤ 14) (hg : ∀ j, j < m → S.2.1 265 j = nI (g j)) : ∀ i k v, i ≤ m → i < k → fX7_numberOf_9 k 119 (nI v) (nI i + (-1)) (qH A S) = some (.inl (some (.int (nI (nuM p g i v)))), qH A S) := by
  intro i
  induction i with
  | zero =>
    intro k v _ hk
    obtain ⟨k, rfl⟩ : ∃ k', k = k' + 1 := ⟨k - 1, by omega⟩
    rw [fX7_numberOf_9, if_pos (by decide)]
    rfl
  | succ i ih =>
    intro k v hi hk
    obtain ⟨k, rfl⟩ : ∃ k', k = k' + 1 := ⟨k - 1, by omega⟩
    rw [fX7_numberOf_9, pk_m1, if_neg (nI_pos (by omega)), gi_119_13, q_bs, hP, gr_119_21, q_bs, q_ai ql_265 (by omega), q_bs, hg i (by omega), pk_mul, nI_add]
    exact ih k _ (by omega) (by omega)
theorem m_num (hp : 2 ≤ p) (hp2 : p ≤ 64) (hP : S.1 119 13 = nI p) (hM : S.1 119 14 = nI m) (hm1 : 1 ≤ m) {g : Nat → Nat} (hm : m ≤ 14) (hg : ∀ j, j < m → S.2.1 265 j = nI (g j)) : fX7_numberOf 119 (qH A S) = some (.inl (some (.int (nI (nuM p g m 0)))), qH A S) := by
  have h := m_num9 (A := A) hp hp2 hP hm hg m FU 0 (Nat.le_refl _) (by unfold FU; omega)
  unfold fX7_numberOf
  rw [gi_119_14, q_bs, hM]
  have e : nI m - 1 = nI m + (-1) := by
    have h1 : nI m - 1 = nI (m - 1) := pk_sub (b := 1) hm1
    rw [h1, sb_m1 (by omega)]
  rw [e]
  exact h
end QMC
