/-! the reference's field at work -/
theorem rw_s : ∀ a, a < 64 → row64 (133 + 1 + a) = true ∧ row64 (198 + 1 + a) = true := by decide +kernel
def TabM (f : Nat) (S : SS) : Prop := (∀ a b, a < qF f → b < qF f → S.2.1 (133 + 1 + a) b = nI (ad f a b)) ∧ (∀ a b, a < qF f → b < qF f → S.2.1 (198 + 1 + a) b = nI (mu f a b)) ∧ (∀ a, a < qF f → S.2.1 263 a = nI (ng f a)) ∧ (∀ a, a < qF f → a ≠ 0 → S.2.1 264 a = nI (iv f a)) ∧ S.1 119 13 = nI (pF f) ∧ S.1 119 14 = nI (mF f) ∧ S.1 119 15 = nI (qF f) ∧ S.1 119 16 = nI (dF f)
section QMB
variable {A : AS} {S : SS} {f a b x n : Nat}
theorem tm_s (hf : f < nF) (hT : TabM f S) (ha : a < qF f) (hb : b < qF f) : zar (qH A S) 133 (nI a) = some (133 + 1 + a) ∧ zai (qH A S) (133 + 1 + a) (nI b) = some (nI (ad f a b)) := by
  have hq := qz hf
  refine ⟨ar_133 (by omega), ?_⟩
  rw [q_ai (ql_row (by omega) (rw_s a (by omega)).1) (by omega), hT.1 a b ha hb]
theorem tm_p (hf : f < nF) (hT : TabM f S) (ha : a < qF f) (hb : b < qF f) : zar (qH A S) 198 (nI a) = some (198 + 1 + a) ∧ zai (qH A S) (198 + 1 + a) (nI b) = some (nI (mu f a b)) := by
  have hq := qz hf
  refine ⟨ar_198 (by omega), ?_⟩
  rw [q_ai (ql_row (by omega) (rw_s a (by omega)).2) (by omega), hT.2.1 a b ha hb]
theorem m_apart (hf : f < nF) (hT : TabM f S) (ha : a < qF f) (hb : b < qF f) : fX7_apart 119 (nI a) (nI b) (qH A S) = some (.inl (some (.int (nI (ad f a (ng f b))))), qH A S) := by
  have hq := qz hf
  obtain ⟨h1, h2⟩ := tm_s (A := A) hf hT ha (ng_lt hf hb)
  unfold fX7_apart
  rw [gr_119_17, q_bs, h1, q_bs, gr_119_19, q_bs, q_ai ql_263 (by omega), q_bs, hT.2.2.1 b hb, h2, q_bs]
theorem m_raise (hf : f < nF) (hT : TabM f S) : ∀ k n v s, n < k → n < 2 ^ 31 → v < qF f → s < qF f → fX7_raisedPoint_8 k 119 (nI v) (nI s) (nI n) (qH A S) = some (.inl (some (.int (nI (mu f v (pw f s n))))), qH A S) := by
  intro k
  induction k with
  | zero => intro n v s h; omega
  | succ k ih =>
    intro n v s hn hn2 hv hs
    rw [fX7_raisedPoint_8]
    by_cases c0 : n = 0
    · subst c0
      rw [if_pos (by decide)]
      show _ = some (Sum.inl (some (Value.int (nI (mu f v 1)))), qH A S)
      rw [(mu_0 hf hv).2]
    · have e0 : ¬ nI n ≤ 0 := by rw [qlit, nI_leI hn2 (by decide)]; omega
      have d2 : nI n / 2 = nI (n / 2) := pk_div (d := 2) hn2 (by decide) (by decide)
      have r2 : nI n - nI n / 2 * 2 = nI (n % 2) := pk_rem (d := 2) hn2 (by decide) (by decide)
      rw [if_neg e0, if_neg (by decide), r2]
      have hss := mu_lt hf hs hs
      have pss : ∀ j, pw f (mu f s s) j = pw f s (2 * j) := by
        intro j
        induction j with
        | zero => rfl
        | succ j ih =>
          show mu f (pw f (mu f s s) j) (mu f s s) = mu f (mu f (pw f s (2 * j)) s) s
          rw [ih, mu_assoc hf (pw_lt hf hs _) hs hs]
      have step : ∀ w, w < qF f → fX7_raisedPoint_31 (fun p0 p3 p4 p5 h => fX7_raisedPoint_8 k p0 p3 p4 p5 h) 119 (nI w) (nI s) (nI n) (qH A S) = some (.inl (some (.int (nI (mu f w (pw f s (2 * (n / 2))))))), qH A S) := by
        intro w hw
        obtain ⟨h1, h2⟩ := tm_p (A := A) hf hT hs hs
        unfold fX7_raisedPoint_31
        rw [gr_119_18, q_bs, h1, q_bs, h2, q_bs, if_neg (by decide), d2]
        show fX7_raisedPoint_8 k 119 (nI w) (nI (mu f s s)) (nI (n / 2)) (qH A S) = _
        rw [ih (n / 2) w (mu f s s) (by omega) (by omega) hw hss, pss]
      by_cases c2 : n % 2 = 1
      · obtain ⟨h1, h2⟩ := tm_p (A := A) hf hT hv hs
        rw [c2, if_pos (by rfl), gr_119_18, q_bs, h1, q_bs, h2, q_bs, step _ (mu_lt hf hv hs), mu_assoc hf hv hs (pw_lt hf hs _), mu_comm hf hs (pw_lt hf hs _)]
        have : n = 2 * (n / 2) + 1 := by omega
        rw [show mu f (pw f s (2 * (n / 2))) s = pw f s (2 * (n / 2) + 1) from rfl, ← this]
      · have c3 : n % 2 = 0 := by omega
        rw [c3, if_neg (by decide), step v hv]
        have : n = 2 * (n / 2) := by omega
        rw [← this]
theorem m_raisedPoint (hf : f < nF) (hT : TabM f S) (hn : n < 20000) (ha : a < qF f) : fX7_raisedPoint 119 (nI a) (nI n) (qH A S) = some (.inl (some (.int (nI (pw f a n)))), qH A S) := by
  unfold fX7_raisedPoint
  have h := m_raise (A := A) hf hT FU n 1 a (by unfold FU; exact hn) (by omega) (q1 hf) ha
  rw [(mu_0 hf (pw_lt hf ha n)).1.2] at h
  exact h
theorem m_dickson (hf : f < nF) (hT : TabM f S) (hn : n < 19999) (ha : a < qF f) (hx : x < qF f) : fX7_dickson 119 (nI n) (nI a) (nI x) (qH A S) = some (.inl (some (.int (nI (dk f a x n)))), qH A S) := by
  have hq := qz hf
  have L := fun m => dk_lt hf ha hx m
  obtain ⟨s1, s2⟩ := tm_s (A := A) hf hT (q1 hf) (q1 hf)
  unfold fX7_dickson
  rw [gr_119_17, q_bs, show (1 : Int32) = nI 1 from rfl, s1, q_bs, s2, q_bs]
  by_cases c0 : n = 0
  · rw [if_pos (by rw [c0]; rfl), c0]
    rfl
  · rw [if_neg (by rw [qlit, nI_eq (by omega) (by decide)]; exact c0)]
    have h := loopF0 (fun k j (w : Nat × Nat) => fX7_dickson_23 k 119 (nI n) (nI a) (nI x) (nI w.1) (nI w.2) (nI (j + 1)) (qH A S)) (n - 1) (fun j => (dk f a x j, dk f a x (j + 1))) (some (.inl (some (.int (nI (dk f a x n)))), qH A S)) (by omega) ?_ ?_
    · exact h
    · intro k j hj
      obtain ⟨p1, p2⟩ := tm_p (A := A) hf hT hx (L (j + 1))
      obtain ⟨p3, p4⟩ := tm_p (A := A) hf hT ha (L j)
      show fX7_dickson_23 (k + 1) 119 (nI n) (nI a) (nI x) (nI (dk f a x j)) (nI (dk f a x (j + 1))) (nI (j + 1)) (qH A S) = fX7_dickson_23 k 119 (nI n) (nI a) (nI x) (nI (dk f a x (j + 1))) (nI (ad f (mu f x (dk f a x (j + 1))) (ng f (mu f a (dk f a x j))))) (nI (j + 1 + 1)) (qH A S)
      rw [fX7_dickson_23, if_neg (by rw [nI_leI (by omega) (by omega)]; omega), gr_119_18, q_bs, p1, q_bs, p2, q_bs, q_bs, p3, q_bs, p4, q_bs, ob_119, q_cv, m_apart hf hT (mu_lt hf hx (L (j + 1))) (mu_lt hf ha (L j)), q_cal, q_vi, nI_1]
    · intro k
      have e : n - 1 + 1 = n := by omega
      show fX7_dickson_23 (k + 1) 119 (nI n) (nI a) (nI x) (nI (dk f a x (n - 1))) (nI (dk f a x (n - 1 + 1))) (nI (n - 1 + 1)) (qH A S) = _
      rw [fX7_dickson_23, e, if_pos (by rw [nI_leI (by omega) (by omega)]; exact Nat.le_refl _)]
end QMB
