/-! the reference's way to see whether all values come -/
theorem q_sbit {n k : Nat} (hn : n < 2 ^ 64) (hk : k < 64) : (lN n >>> ((nI k).toInt64 &&& 63)) &&& 1 = lN (if n.testBit k = true then 1 else 0) := by
  rw [wb_c k hk]
  obtain ⟨m, hm, e⟩ := wb_of (lN n >>> lN k)
  rw [e, wb_a1 hm]
  have hb : (lN n >>> lN k).toBitVec.getLsbD 0 = n.testBit k := by
    rw [Int64.toBitVec_shiftRight, wb_tb, wb_tb, wb_sm k hk, BitVec.sshiftRight_eq', BitVec.getLsbD_sshiftRight, BitVec.toNat_ofNat, Nat.mod_eq_of_lt (by omega)]
    simp [hk]
    rw [← BitVec.getLsbD_eq_getElem, BitVec.getLsbD_ofNat]
    simp [hk]
  rw [e, wb_tb, BitVec.getLsbD_ofNat] at hb
  have h0 : m.testBit 0 = n.testBit k := by simpa using hb
  rw [Nat.testBit_zero] at h0
  congr 1
  by_cases c : n.testBit k = true
  · rw [if_pos c]; rw [c] at h0; exact of_decide_eq_true h0
  · rw [if_neg c]
    have c' : n.testBit k = false := by simpa using c
    rw [c'] at h0
    have := of_decide_eq_false h0
    omega
section QMG
variable {A : AS} {S : SS} {f : Nat} {R : Nat → Nat}
theorem m_areAll (hf : f < nF) (hz : S.1 119 15 = nI (qF f)) (hr : rowR f S 266 R) : fX7_areAll 119 (qH A S) = some (.inl (some (.int (if pmB (qF f) R = true then 1 else 0))), qH A S) := by
  have hq := qz hf
  have hl := img_le (qF f) R
  have hm : ∀ i, i ≤ qF f → ms R i < 2 ^ 64 := fun i hi => ms_lt i (fun x hx => by have := (hr x (by omega)).2; omega)
  unfold fX7_areAll
  have h := loopF0 (fun k i w => fX7_areAll_4 k 119 w (nI i) (qH A S)) (qF f) (fun i => lN (ms R i)) (some (.inl (some (.int (if pmB (qF f) R = true then 1 else 0))), qH A S)) (by omega) ?_ ?_
  · exact h
  · intro k i hlt
    have hv := (hr i hlt).2
    show fX7_areAll_4 (k + 1) 119 (lN (ms R i)) (nI i) (qH A S) = fX7_areAll_4 k 119 (lN (ms R i ||| 2 ^ R i)) (nI (i + 1)) (qH A S)
    rw [fX7_areAll_4, gi_119_15, q_bs, hz, if_neg (by rw [nI_leI (by omega) (by omega)]; omega), gr_119_24, q_bs, q_ai ql_266 (by omega), q_bs, (hr i hlt).1, q_letJ, q_sh1 (by omega), wb_or (hm i (by omega)) (Nat.pow_lt_pow_right (by decide) (by omega)), nI_1]
  · intro k
    show fX7_areAll_4 (k + 1) 119 (lN (ms R (qF f))) (nI (qF f)) (qH A S) = _
    rw [fX7_areAll_4, gi_119_15, q_bs, hz, if_pos (by rw [nI_leI (by omega) (by omega)]; exact Nat.le_refl _)]
    have h2 := loopF0 (fun j v c => fX7_areAll_34 j 119 (lN (ms R (qF f))) (nI c) (nI v) (qH A S)) (qF f) (fun v => fb_ct (fun u => (ms R (qF f)).testBit u) v) (some (.inl (some (.int (if pmB (qF f) R = true then 1 else 0))), qH A S)) (by omega) ?_ ?_
    · exact h2
    · intro j v hv
      have hc : fb_ct (fun u => (ms R (qF f)).testBit u) v ≤ v := fb_ct_le _ _
      show fX7_areAll_34 (j + 1) 119 (lN (ms R (qF f))) (nI (fb_ct (fun u => (ms R (qF f)).testBit u) v)) (nI v) (qH A S) = fX7_areAll_34 j 119 (lN (ms R (qF f))) (nI (fb_ct (fun u => (ms R (qF f)).testBit u) (v + 1))) (nI (v + 1)) (qH A S)
      rw [fX7_areAll_34, gi_119_15, q_bs, hz, if_neg (by rw [nI_leI (by omega) (by omega)]; omega), q_let, q_sbit (hm _ (Nat.le_refl _)) (by omega), nI_l (by omega), lN_add, lN_i, nI_1, fb_ct_succ]
    · intro j
      show fX7_areAll_34 (j + 1) 119 (lN (ms R (qF f))) (nI (img (qF f) R)) (nI (qF f)) (qH A S) = _
      rw [fX7_areAll_34, gi_119_15, q_bs, hz, if_pos (by rw [nI_leI (by omega) (by omega)]; exact Nat.le_refl _), q_bs]
      by_cases c : img (qF f) R = qF f
      · rw [c, if_pos rfl]
        unfold zbr
        rw [if_pos (Or.inr rfl), if_pos (by unfold pmB; simp [c])]
      · rw [if_neg (by rw [nI_eq (by omega) (by omega)]; exact c)]
        unfold zbr
        rw [if_pos (Or.inl rfl), if_neg (by unfold pmB; simp [c])]
end QMG
