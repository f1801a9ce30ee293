/-! the component's acts, part 2 -/
section QV
variable {A : AS} {S : SS} {G : GS}
theorem oc_again (h : CI G S) (x y : Int32) : cOK A S (fX6_again 0 x y (qH A S)) (oP G x fun p => oN G 0 1000000000 y fun n => oRm G (.inr (.int (nI G.1.2.1)), gN G (fun u => itf (G.1.2.2 p) n u))) := by
  have hq := qz h.2.1.1
  have hs : isSt 7 = true := by decide
  unfold fX6_again
  refine c_P h x (fun p hp e => ?_)
  refine c_N (lo := 0) (hi := 1000000000) h y rfl rfl (by decide) (by decide) (fun n n1 n2 e2 => ?_)
  refine c_R h (fun hc => ?_)
  obtain ⟨S1, k1, k2, k3⟩ := c_keep (A := A) h
  obtain ⟨p1, p2, p3, p4⟩ := x_row (A := A) k2 hp
  have lm := ql_st (A := A) hs hc
  have hz : S1.1 1 2 = nI (qF G.1.1) := k2.1.2.2.2.2.2.2.1
  have h4 : S1.1 7 2 = nI G.1.2.1 := k2.2.1.2.2.2.1
  obtain ⟨S2, j1, j2, j3⟩ := st_repeat (A := A) (S := S1) (n := n) h.2.1.1 hz p2 lm p1 (by omega) (show 7 + 2 + p ≠ 7 + 2 + G.1.2.1 by omega) (by omega) (by omega) (by omega)
  obtain ⟨m1, m2, m3⟩ := ci_new (G := G) (R := fun u => itf (G.1.2.2 p) n u) k2 hc j2 j3
  refine c_retG m1 ((k3.mo (Y := fun x => x ≤ 118) (fun b hb => by omega)).tr m3) (fun b hb => hb) ?_
  simp only [e, e2, gr_0_3, gr_0_1, gr_0_6, q_bs, ob_23, ob_113, q_cv, k1, q_cal, q_vn, gr_st hs, p4, gi_st hs (show 2 < 3 by decide), h4, ar_mx hs hc, j1, m2, nI_1, pi_st hs (show 2 < 3 by decide), us_at, if_true, nI_pred]
theorem oc_back (h : CI G S) (x : Int32) : cOK A S (fX6_back 0 x (qH A S)) (oP G x fun p => oRm G (oPm G p (.inr (.int (nI G.1.2.1)), gN G (liF (G.1.2.2 p) (qF G.1.1))))) := by
  have hq := qz h.2.1.1
  have hs : isSt 7 = true := by decide
  unfold fX6_back
  refine c_P h x (fun p hp e => ?_)
  subst e
  refine c_R h (fun hc => ?_)
  refine c_M h hp (fun hpm => ?_)
  obtain ⟨S1, k1, k2, k3⟩ := c_keep (A := A) h
  obtain ⟨p1, p2, p3, p4⟩ := x_row (A := A) k2 hp
  have lm := ql_st (A := A) hs hc
  have hz : S1.1 1 2 = nI (qF G.1.1) := k2.1.2.2.2.2.2.2.1
  have h4 : S1.1 7 2 = nI G.1.2.1 := k2.2.1.2.2.2.1
  obtain ⟨S2, j1, j2, j3⟩ := st_invert (A := A) (S := S1) h.2.1.1 hz p2 lm p1 (show 7 + 2 + p ≠ 7 + 2 + G.1.2.1 by omega)
  obtain ⟨m1, m2, m3⟩ := ci_new (G := G) (R := liF (G.1.2.2 p) (qF G.1.1)) k2 hc (fun y hy => ⟨j2 y hy (pm_on hpm hy), (li_ok _ y (pm_on hpm hy)).1⟩) (j3.mo (fun b hb => Or.inl hb))
  refine c_retG m1 ((k3.mo (Y := fun x => x ≤ 118) (fun b hb => by omega)).tr m3) (fun b hb => hb) ?_
  simp only [gr_0_3, gr_0_1, gr_0_6, q_bs, ob_23, ob_113, q_cv, k1, q_cal, q_vn, gr_st hs, p4, gi_st hs (show 2 < 3 by decide), h4, ar_mx hs hc, j1, m2, nI_1, pi_st hs (show 2 < 3 by decide), us_at, if_true, nI_pred]
def gD (G : GS) (p : Nat) : GS := ((G.1.1, G.1.2.1 - 1, fun i => if i < p then G.1.2.2 i else G.1.2.2 (i + 1)), (gH G).2)
theorem oc_drop (h : CI G S) (x : Int32) : cOK A S (fX6_drop 0 x (qH A S)) (oP G x fun p => (.inr (.int (nI (G.1.2.1 - 1))), gD G p)) := by
  have hs : isSt 7 = true := by decide
  unfold fX6_drop
  refine c_P h x (fun p hp e => ?_)
  obtain ⟨S1, k1, k2, k3⟩ := c_keep (A := A) h
  obtain ⟨S2, j1, j2, j3⟩ := sX3_remove (A := A) (σ := G.1) k2.2.1 hp
  have hci : CI (gD G p) S2 := ci_now k2 j3 (fun b hb => by have : 7 ≤ b ∧ b < 15 := hb; omega) j2 rfl
  refine c_retG hci ((k3.mo (Y := fun x => x ≤ 118) (fun b hb => by omega)).tr (j3.mo (fun b hb => by have : 7 ≤ b ∧ b < 15 := hb; omega))) (fun b hb => hb) ?_
  have h4 : S2.1 7 2 = nI (G.1.2.1 - 1) := j2.2.2.2.1
  simp only [e, gr_0_3, gr_0_1, q_bs, ob_23, ob_st hs, q_cv, k1, q_cal, q_vn, j1, gi_st hs (show 2 < 3 by decide), h4]
def gU (G : GS) : OC := if G.2.1.1 = 0 then (.inr (.int (-1)), G) else (.inr (.int (nI (G.2.1.1 - 1))), (G.2.1.2 0, (G.2.1.1 - 1, fun k => G.2.1.2 (k + 1)), G.2.2))
theorem oc_undo (h : CI G S) : cOK A S (fX6_undo 0 (qH A S)) (gU G) := by
  have hs : isSt 7 = true := by decide
  unfold gU
  obtain ⟨h1, h2, h3, ⟨h4, h5, h6⟩, h7, h8⟩ := h
  have h0 : CI G S := ⟨h1, h2, h3, ⟨h4, h5, h6⟩, h7, h8⟩
  by_cases c : G.2.1.1 = 0
  · rw [if_pos c]
    rw [c] at h3
    refine c_ret h0 ?_
    unfold fX6_undo
    rw [gr_0_3, q_bs, ob_23, q_cv, sX1_take0 h3, q_cal]
    rfl
  · rw [if_neg c]
    obtain ⟨n, hn⟩ : ∃ n, G.2.1.1 = n + 1 := ⟨G.2.1.1 - 1, by omega⟩
    rw [hn] at h3
    obtain ⟨S1, s, a1, ⟨a2, a3, a4⟩, a5, a6, a7⟩ := sX1_take (A := A) h3
    obtain ⟨S2, b1, b2, b3⟩ := sX3_become (A := A) hs a2 (fun e => absurd (show 25 ≤ 7 from e ▸ a3) (by decide)) a5
    have hT2 : TabC G.1.1 S2 := (h1.eqo a7 (fun b _ hb (hx : b = 23) => by omega)).eqo b3 (fun b _ hb (hx : 7 ≤ b ∧ b < 7 + 8) => by omega)
    obtain ⟨S3, d1, d2, d3⟩ := sX0_tune (A := A) b2.1 h2.1 hT2
    have st3 : stR S3 7 (G.2.1.2 0) := b2.eqo d3 (fun b hb1 hb2 (hx : 1 ≤ b ∧ b ≤ 6) => by omega)
    have hi3 : hiR S3 n (fun k => G.2.1.2 (k + 1)) := (a6.eqo b3 (fun b hb1 hb2 (hx : 7 ≤ b ∧ b < 7 + 8) => by omega)).eqo d3 (fun b hb1 hb2 (hx : 1 ≤ b ∧ b ≤ 6) => by omega)
    have hX : eqo (fun x => 1 ≤ x ∧ x ≤ 23) S S3 := ((a7.mo (Y := fun x => 1 ≤ x ∧ x ≤ 23) (fun b (hb : b = 23) => by omega)).tr (b3.mo (fun b (hb : 7 ≤ b ∧ b < 7 + 8) => by omega))).tr (d3.mo (fun b (hb : 1 ≤ b ∧ b ≤ 6) => by omega))
    have e1 : G.2.1.1 - 1 = n := by omega
    rw [e1]
    refine c_retG (G' := (G.2.1.2 0, (n, fun k => G.2.1.2 (k + 1)), G.2.2)) (S' := S3) ⟨d2, st3, hi3, ⟨h4, by rw [(hX.1 89 (by omega)).1]; exact h5, fun i hi => by rw [(hX.1 90 (by omega)).2]; exact h6 i hi⟩, fun j hj => by rw [(hX.1 118 (by omega)).2]; exact h7 j hj, by rw [(hX.1 0 (by omega)).1]; exact h8⟩ hX (fun b hb => by omega) ?_
    unfold fX6_undo
    have p0 : S2.1 7 0 = nI (pF (G.2.1.2 0).1) := b2.2.1
    have p1 : S2.1 7 1 = nI (mF (G.2.1.2 0).1) := b2.2.2.1
    rw [gr_0_3, q_bs, ob_23, q_cv, a1, q_cal]
    show ((zgR (qH A S1) 0 6 1).bind fun x5 => _) = _
    simp only [gr_0_1, q_bs, ob_st hs, q_cv, b1, q_cal, q_vn, gr_0_0, gi_st hs (show 0 < 3 by decide), gi_st hs (show 1 < 3 by decide), p0, p1, ob_1, d1, gr_0_3, gi_23_0, hi3.2.1]
end QV
