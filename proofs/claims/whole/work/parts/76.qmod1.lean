/-! the reference: small things -/
section QMA
variable {A : AS} {S : SS}
theorem m_digit {n p i : Nat} (hn : n < 2 ^ 31) (hp : 0 < p) (hp2 : p < 2 ^ 31) (hi : i < 20) : fX7_digit (nI n) (nI p) (nI i) (qH A S) = some (.inl (some (.int (nI (n / p ^ i % p)))), qH A S) := by
  have p0 : ¬ nI p = 0 := nI_ne0 hp hp2
  have hd : ∀ k, n / p ^ k < 2 ^ 31 := fun k => Nat.lt_of_le_of_lt (Nat.div_le_self _ _) hn
  unfold fX7_digit
  have h := loopF0 (fun k j v => fX7_digit_5 k (nI p) (nI i) (nI v) (nI j) (qH A S)) i (fun j => n / p ^ j) (some (.inl (some (.int (nI (n / p ^ i % p)))), qH A S)) (by omega) ?_ ?_
  · rw [Nat.pow_zero, Nat.div_one] at h
    exact h
  · intro k j hj
    show fX7_digit_5 (k + 1) (nI p) (nI i) (nI (n / p ^ j)) (nI j) (qH A S) = fX7_digit_5 k (nI p) (nI i) (nI (n / p ^ (j + 1))) (nI (j + 1)) (qH A S)
    rw [fX7_digit_5, if_neg (by rw [nI_leI (by omega) (by omega)]; omega), if_neg p0, pk_div (hd j) hp hp2, nI_1, Nat.pow_succ, Nat.div_div_eq_div_mul]
  · intro k
    show fX7_digit_5 (k + 1) (nI p) (nI i) (nI (n / p ^ i)) (nI i) (qH A S) = _
    rw [fX7_digit_5, if_pos (by rw [nI_leI (by omega) (by omega)]; exact Nat.le_refl _), if_neg p0, pk_rem (hd i) hp hp2]
/-- powers, no further than 1000 -/
def rsM (p : Nat) : Nat → Nat
  | 0 => 1
  | m + 1 => if rsM p m * p ≤ 1000 then rsM p m * p else 1000
theorem rsM_le (p : Nat) : ∀ m, rsM p m ≤ 1000
  | 0 => by show 1 ≤ 1000; decide
  | m + 1 => by unfold rsM; split <;> omega
theorem m_raised {p m : Nat} (hp : p < 1000) (hm : m < 100) : fX7_raised (nI p) (nI m) (qH A S) = some (.inl (some (.int (nI (rsM p m)))), qH A S) := by
  unfold fX7_raised
  have h := loopF0 (fun k j v => fX7_raised_4 k (nI p) (nI m) (nI v) (nI j) (qH A S)) m (fun j => rsM p j) (some (.inl (some (.int (nI (rsM p m)))), qH A S)) (by omega) ?_ ?_
  · exact h
  · intro k j hj
    have hl := rsM_le p j
    have hm2 : rsM p j * p ≤ 1000 * 1000 := Nat.mul_le_mul hl (by omega)
    show fX7_raised_4 (k + 1) (nI p) (nI m) (nI (rsM p j)) (nI j) (qH A S) = fX7_raised_4 k (nI p) (nI m) (nI (if rsM p j * p ≤ 1000 then rsM p j * p else 1000)) (nI (j + 1)) (qH A S)
    rw [fX7_raised_4, if_neg (by rw [nI_leI (by omega) (by omega)]; omega), pk_mul]
    unfold fX7_less
    by_cases c : rsM p j * p ≤ 1000
    · rw [if_pos (by rw [qlit, nI_leI (by omega) (by decide)]; exact c), if_pos c, q_cal, q_vi, nI_1]
    · rw [if_neg (by rw [qlit, nI_leI (by omega) (by decide)]; exact c), if_neg c, q_cal, q_vi, nI_1]
      rfl
  · intro k
    show fX7_raised_4 (k + 1) (nI p) (nI m) (nI (rsM p m)) (nI m) (qH A S) = _
    rw [fX7_raised_4, if_pos (by rw [nI_leI (by omega) (by omega)]; exact Nat.le_refl _)]
theorem m_of {f : Nat} {R : Nat → Nat} {i x : Nat} (hi : i < 6) (hx : x < 64) : fX7_of 119 (nI i) (nI x) (qH A S) = some (.inl (some (.int (S.2.1 122 (3 + 64 * i + x)))), qH A S) := by
  unfold fX7_of
  rw [gr_119_9, q_bs, show (3 : Int32) = nI 3 from rfl, show (64 : Int32) = nI 64 from rfl, pk_mul, nI_add, nI_add, q_ai ql_122 (by omega), q_bs]
theorem m_copies {a b : Nat} (ha : qL A a 387) (hb : qL A b 387) (hne : a ≠ b) : fX7_copies a b (qH A S) = some (.inl none, qH A (uA S b (fa_fill (S.2.1 a) (S.2.1 b) 387))) := by
  unfold fX7_copies
  have h := loopF0 (fun k i s => fX7_copies_2 k a b (nI i) (qH A s)) 387 (fun i => uA S b (fa_fill (S.2.1 a) (S.2.1 b) i)) (some (.inl none, qH A (uA S b (fa_fill (S.2.1 a) (S.2.1 b) 387)))) (by decide) ?_ ?_
  · rw [fa_fill_0, uA_self] at h
    exact h
  · intro k i hi
    show fX7_copies_2 (k + 1) a b (nI i) (qH A _) = _
    rw [fX7_copies_2, if_neg (by rw [qlit, nI_leI (by decide) (by omega)]; omega), q_ai ha hi, q_bs, uA_ne hne, q_si hb hi, q_bs, uaA, fa_fill_succ (S.2.1 a), nI_1]
  · intro k
    show fX7_copies_2 (k + 1) a b (nI 387) (qH A _) = _
    rw [fX7_copies_2, if_pos (by decide)]
end QMA
