/-! the reference's sums -/
def sdM (p a b i : Nat) : Nat := (a / p ^ i % p + b / p ^ i % p) % p
section QMD
variable {A : AS} {S : SS} {p m a b : Nat}
theorem m_summed (hp : 2 ≤ p) (hp2 : p ≤ 64) (hP : S.1 119 13 = nI p) (hM : S.1 119 14 = nI m) (hm1 : 1 ≤ m) (hm : m ≤ 6) (ha : a < 64) (hb : b < 64) : fX7_summed 119 (nI a) (nI b) (qH A S) = some (.inl (some (.int (nI (nuM p (sdM p a b) m 0)))), qH A (uA S 265 (fa_fill (fun i => nI (sdM p a b i)) (S.2.1 265) m))) := by
  unfold fX7_summed
  have h := loopF0 (fun k i s => fX7_summed_2 k 119 (nI a) (nI b) (nI i) (qH A s)) m (fun i => uA S 265 (fa_fill (fun i => nI (sdM p a b i)) (S.2.1 265) i)) (some (.inl (some (.int (nI (nuM p (sdM p a b) m 0)))), qH A (uA S 265 (fa_fill (fun i => nI (sdM p a b i)) (S.2.1 265) m)))) (by omega) ?_ ?_
  · rw [fa_fill_0, uA_self] at h
    exact h
  · intro k i hi
    have d1 := m_digit (A := A) (S := uA S 265 (fa_fill (fun i => nI (sdM p a b i)) (S.2.1 265) i)) (n := a) (p := p) (i := i) (by omega) (by omega) (by omega) (by omega)
    have d2 := m_digit (A := A) (S := uA S 265 (fa_fill (fun i => nI (sdM p a b i)) (S.2.1 265) i)) (n := b) (p := p) (i := i) (by omega) (by omega) (by omega) (by omega)
    have l1 := Nat.mod_lt (a / p ^ i) (show 0 < p by omega)
    have l2 := Nat.mod_lt (b / p ^ i) (show 0 < p by omega)
    show fX7_summed_2 (k + 1) 119 (nI a) (nI b) (nI i) (qH A _) = _
    rw [fX7_summed_2, gi_119_14, q_bs, uA_s, hM, if_neg (by rw [nI_leI (by omega) (by omega)]; omega), gr_119_21, q_bs, gi_119_13, q_bs, uA_s, hP, d1, q_cal, q_vi, gi_119_13, q_bs, uA_s, hP, d2, q_cal, q_vi, gi_119_13, q_bs, uA_s, hP, if_neg (nI_ne0 (by omega) (by omega)), nI_add, pk_rem (by omega) (by omega) (by omega), q_si ql_265 (by omega), q_bs, uaA, nI_1]
    rw [show upd (fa_fill (fun i => nI (sdM p a b i)) (S.2.1 265) i) i (nI ((a / p ^ i % p + b / p ^ i % p) % p)) = fa_fill (fun i => nI (sdM p a b i)) (S.2.1 265) (i + 1) from fa_fill_succ (fun i => nI (sdM p a b i)) (S.2.1 265) i]
  · intro k
    have hn := m_num (A := A) (S := uA S 265 (fa_fill (fun i => nI (sdM p a b i)) (S.2.1 265) m)) (g := sdM p a b) hp hp2 hP hM hm1 (by omega) (fun j hj => by rw [uA_at, fa_fill_in hj])
    show fX7_summed_2 (k + 1) 119 (nI a) (nI b) (nI m) (qH A _) = _
    rw [fX7_summed_2, gi_119_14, q_bs, uA_s, hM, if_pos (by rw [nI_leI (by omega) (by omega)]; exact Nat.le_refl _), ob_119, q_cv, hn, q_cal, q_vi]
end QMD
theorem k_sdM : al2 (fun f a b => nuM (pF f) (sdM (pF f) a b) (mF f) 0 == ad f a b) = true := by decide +kernel
theorem sd_ad {f a b : Nat} (hf : f < nF) (ha : a < qF f) (hb : b < qF f) : nuM (pF f) (sdM (pF f) a b) (mF f) 0 = ad f a b := by
  have h := al2_of k_sdM hf ha hb
  simpa using h
