/-! the reference's coefficients -/
section QMF
variable {A : AS} {S : SS} {f : Nat} {R : Nat → Nat}
theorem m_coef (hf : f < nF) (hT : TabM f S) (hr : rowR f S 266 R) {k : Nat} (hk : k < qF f) : fX7_coefficientOf 119 (nI k) (qH A S) = some (.inl (some (.int (nI (if k = 0 then R 0 else ng f (cfF f R k))))), qH A S) := by
  have hq := qz hf
  have hz : S.1 119 15 = nI (qF f) := hT.2.2.2.2.2.2.1
  unfold fX7_coefficientOf
  by_cases c0 : k = 0
  · subst c0
    rw [if_pos (by rfl), if_pos rfl, gr_119_24, q_bs, show (0 : Int32) = nI 0 from rfl, q_ai ql_266 (by omega), q_bs, (hr 0 (by omega)).1]
  · rw [if_neg (by rw [qlit, nI_eq (by omega) (by decide)]; exact c0), if_neg c0]
    have h := loopF0 (fun j i s => fX7_coefficientOf_15 j 119 (nI k) (nI s) (nI i) (qH A S)) (qF f) (fun i => fsF f (fun x => mu f (R x) (pw f x (qF f - 1 - k))) i) (some (.inl (some (.int (nI (ng f (cfF f R k))))), qH A S)) (by omega) ?_ ?_
    · exact h
    · intro j i hlt
      obtain ⟨h1, h2⟩ := hr i hlt
      have l1 := cf_lt (g := qF f - 1 - k) hf (fun x hx => (hr x hx).2) i (by omega)
      have l2 := pw_lt hf hlt (qF f - 1 - k)
      obtain ⟨s1, s2⟩ := tm_s (A := A) hf hT l1 (mu_lt hf h2 l2)
      obtain ⟨p1, p2⟩ := tm_p (A := A) hf hT h2 l2
      show fX7_coefficientOf_15 (j + 1) 119 (nI k) (nI (fsF f (fun x => mu f (R x) (pw f x (qF f - 1 - k))) i)) (nI i) (qH A S) = fX7_coefficientOf_15 j 119 (nI k) (nI (ad f (fsF f (fun x => mu f (R x) (pw f x (qF f - 1 - k))) i) (mu f (R i) (pw f i (qF f - 1 - k))))) (nI (i + 1)) (qH A S)
      rw [fX7_coefficientOf_15]
      simp (disch := omega) only [gi_119_15, gr_119_17, gr_119_18, gr_119_24, q_bs, hz, nI_leI, if_neg (show ¬ qF f ≤ i by omega), s1, ai_266, h1, p1, qlit, pk_sub, ob_119, q_cv, m_raisedPoint hf hT (show qF f - 1 - k < 20000 by omega) hlt, q_cal, q_vi, p2, s2, nI_add]
    · intro j
      have l1 := cf_lt (g := qF f - 1 - k) hf (fun x hx => (hr x hx).2) (qF f) (Nat.le_refl _)
      show fX7_coefficientOf_15 (j + 1) 119 (nI k) (nI (cfF f R k)) (nI (qF f)) (qH A S) = _
      have l3 : cfF f R k < qF f := l1
      rw [fX7_coefficientOf_15, gi_119_15, q_bs, hz, if_pos (by rw [nI_leI (by omega) (by omega)]; exact Nat.le_refl _), gr_119_19, q_bs, q_ai ql_263 (by omega), q_bs, hT.2.2.1 _ l3]
end QMF
