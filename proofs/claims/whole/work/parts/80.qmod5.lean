/-! the reference's rows: how often, how many -/
def nowR (f : Nat) (S : SS) (i : Nat) (R : Nat → Nat) : Prop := ∀ x, x < qF f → S.2.1 122 (3 + 64 * i + x) = nI (R x) ∧ R x < qF f
section QME
variable {A : AS} {S : SS} {f i : Nat} {R : Nat → Nat}
theorem m_at (hf : f < nF) (hi : i < 6) (hr : nowR f S i R) {x : Nat} (hx : x < qF f) : fX7_of 119 (nI i) (nI x) (qH A S) = some (.inl (some (.int (nI (R x)))), qH A S) := by
  have hq := qz hf
  rw [m_of (f := f) (R := R) hi (by omega), (hr x hx).1]
theorem m_taken (hf : f < nF) (hz : S.1 119 15 = nI (qF f)) (hi : i < 6) (hr : nowR f S i R) {v : Nat} (hv : v < 2 ^ 31) : fX7_takenBy 119 (nI i) (nI v) (qH A S) = some (.inl (some (.int (nI (cnV (qF f) R v)))), qH A S) := by
  have hq := qz hf
  unfold fX7_takenBy
  have h := loopF0 (fun k x c => fX7_takenBy_5 k 119 (nI i) (nI v) (nI c) (nI x) (qH A S)) (qF f) (fun x => cnV x R v) (some (.inl (some (.int (nI (cnV (qF f) R v)))), qH A S)) (by omega) ?_ ?_
  · exact h
  · intro k x hx
    have hl := (hr x hx).2
    show fX7_takenBy_5 (k + 1) 119 (nI i) (nI v) (nI (cnV x R v)) (nI x) (qH A S) = fX7_takenBy_5 k 119 (nI i) (nI v) (nI (fb_ct (fun y => R y == v) (x + 1))) (nI (x + 1)) (qH A S)
    rw [fX7_takenBy_5, gi_119_15, q_bs, hz, if_neg (by rw [nI_leI (by omega) (by omega)]; omega), ob_119, q_cv, m_at hf hi hr hx, q_cal, q_vi, fb_ct_succ]
    by_cases e : R x = v
    · rw [if_pos (by rw [e]), if_pos (by simp [e]), nI_1, nI_1]
      rfl
    · rw [if_neg (by rw [nI_eq (by omega) hv]; exact e), if_neg (by simp [e]), nI_1, show (0 : Int32) = nI 0 from rfl, nI_add]
      rfl
  · intro k
    show fX7_takenBy_5 (k + 1) 119 (nI i) (nI v) _ (nI (qF f)) (qH A S) = _
    rw [fX7_takenBy_5, gi_119_15, q_bs, hz, if_pos (by rw [nI_leI (by omega) (by omega)]; exact Nat.le_refl _)]
theorem cn_pos {q v : Nat} : 0 < cnV q R v ↔ (ms R q).testBit v = true := by
  unfold cnV
  rw [fb_ct_pos, ms_bit]
  constructor
  · rintro ⟨k, h1, h2⟩; exact ⟨k, h1, by simpa using h2⟩
  · rintro ⟨k, h1, h2⟩; exact ⟨k, h1, by simpa using h2⟩
theorem m_image (hf : f < nF) (hz : S.1 119 15 = nI (qF f)) (hi : i < 6) (hr : nowR f S i R) : fX7_imageOf 119 (nI i) (qH A S) = some (.inl (some (.int (nI (img (qF f) R)))), qH A S) := by
  have hq := qz hf
  unfold fX7_imageOf
  have h := loopF0 (fun k v c => fX7_imageOf_4 k 119 (nI i) (nI c) (nI v) (qH A S)) (qF f) (fun v => fb_ct (fun u => (ms R (qF f)).testBit u) v) (some (.inl (some (.int (nI (img (qF f) R)))), qH A S)) (by omega) ?_ ?_
  · exact h
  · intro k v hv
    have hc : cnV (qF f) R v ≤ qF f := fb_ct_le _ _
    show fX7_imageOf_4 (k + 1) 119 (nI i) (nI (fb_ct (fun u => (ms R (qF f)).testBit u) v)) (nI v) (qH A S) = fX7_imageOf_4 k 119 (nI i) (nI (fb_ct (fun u => (ms R (qF f)).testBit u) (v + 1))) (nI (v + 1)) (qH A S)
    rw [fX7_imageOf_4, gi_119_15, q_bs, hz, if_neg (by rw [nI_leI (by omega) (by omega)]; omega), ob_119, q_cv, m_taken hf hz hi hr (by omega), q_cal, q_vi, fb_ct_succ]
    by_cases e : 0 < cnV (qF f) R v
    · rw [if_neg (by rw [qlit, nI_leI (by omega) (by decide)]; omega), if_pos (cn_pos.mp e), nI_1, nI_1]
    · rw [if_pos (by rw [qlit, nI_leI (by omega) (by decide)]; omega), if_neg (fun hb => e (cn_pos.mpr hb)), nI_1, show (0 : Int32) = nI 0 from rfl, nI_add]
  · intro k
    show fX7_imageOf_4 (k + 1) 119 (nI i) _ (nI (qF f)) (qH A S) = _
    rw [fX7_imageOf_4, gi_119_15, q_bs, hz, if_pos (by rw [nI_leI (by omega) (by omega)]; exact Nat.le_refl _)]
    rfl
theorem m_perm (hf : f < nF) (hz : S.1 119 15 = nI (qF f)) (hi : i < 6) (hr : nowR f S i R) : fX7_isPermuting 119 (nI i) (qH A S) = some (.inl (some (.int (if pmB (qF f) R = true then 1 else 0))), qH A S) := by
  have hq := qz hf
  have hl := img_le (qF f) R
  unfold fX7_isPermuting
  rw [ob_119, q_cv, m_image hf hz hi hr, q_cal, q_vi, gi_119_15, q_bs, hz]
  by_cases c : img (qF f) R = qF f
  · rw [c, if_pos rfl]
    unfold zbr
    rw [if_pos (Or.inr rfl), if_pos (by unfold pmB; simp [c])]
  · rw [if_neg (by rw [nI_eq (by omega) (by omega)]; exact c)]
    unfold zbr
    rw [if_pos (Or.inl rfl), if_neg (by unfold pmB; simp [c])]
end QME
