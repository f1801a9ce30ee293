/-! the component's text -/
/-- what a text comes to -/
noncomputable def gT (G : GS) (n : Nat) : OC := match pText G.2.2.1.2 n with
  | .inl e => (.inr (.int (nI e.1 - 10)), (G.1, G.2.1, (0, G.2.2.1.2), G.2.2.2.1, nI e.2))
  | .inr σ => (.inr (.int (nI σ.2.1)), (σ, (gH G).2.1, (0, G.2.2.1.2), G.2.2.2.1, -1))
section QTK
variable {A : AS} {S : SS} {G : GS}
/-- what reading comes to, all of it -/
theorem r_read {b : Nat → Nat} {n g : Nat} (hn : n ≤ 300) (hb : ∀ i, i < n → b i < 256) (hg : g < nF) (hT : TabC g S) (hX : TX b n S) (hp : TP b n S (sk b n 0)) :
    ∃ S', eqo (fun x => (1 ≤ x ∧ x ≤ 6) ∨ (15 ≤ x ∧ x < 23) ∨ x = 89 ∨ (94 ≤ x ∧ x ≤ 112)) S S' ∧ (∃ g', g' < nF ∧ TabC g' S') ∧ (match pText b n with | .inl e => S'.1 94 0 = nI e.1 ∧ S'.1 94 1 = nI e.2 ∧ fX2_read 94 (qH A S) = some (.inl (some (.int 0)), qH A S') | .inr σ => S'.1 94 1 = -1 ∧ stR S' 15 σ ∧ TabC σ.1 S' ∧ fX2_read 94 (qH A S) = some (.inl (some (.int 1)), qH A S')) := by
  have hs : isSt 15 = true := by decide
  let S1 := us (us (us S 94 0 0) 94 1 (-1)) 15 2 0
  have e1 : eqo (fun x => x = 94 ∨ x = 15) S S1 := ((eqo.us (Or.inl rfl)).tr (eqo.us (Or.inl rfl))).tr (eqo.us (Or.inr rfl))
  have hT1 : TabC g S1 := hT.eqo e1 (fun r _ hr (h : r = 94 ∨ r = 15) => by omega)
  have hX1 : TX b n S1 := hX.eqo e1 (fun r hr (h : r = 94 ∨ r = 15) => by omega)
  have hp1 : TP b n S1 (sk b n 0) := hp.eqo e1 (by decide)
  have v1 : S1.1 94 1 = -1 := by
    show (us (us (us S 94 0 0) 94 1 (-1)) 15 2 0).1 94 1 = _
    rw [us_ne (by decide), us_at, if_pos rfl]
  have v2 : S1.1 15 2 = nI 0 := by
    show (us (us (us S 94 0 0) 94 1 (-1)) 15 2 0).1 15 2 = _
    rw [us_at, if_pos rfl]
    rfl
  have hrd : fX2_read 94 (qH A S) = zca (fX2_readField 94 (qH A S1)) fun v5 h6 => zvi v5 fun x7 => if x7 = 0 then zbr 0 h6 else fX2_read_29 FU 94 0 h6 := by
    unfold fX2_read
    rw [pi_94_0, q_bs, pi_94_1, q_bs, gr_94_4, q_bs, pi_st hs (by decide), q_bs, ob_94, q_cv]
  obtain ⟨S2, a1, a2, a3⟩ := r_field (A := A) hn hb hg hT1 hX1 hp1
  have e12 : eqo (fun x => (1 ≤ x ∧ x ≤ 6) ∨ (15 ≤ x ∧ x < 23) ∨ x = 89 ∨ (94 ≤ x ∧ x ≤ 112)) S S2 := (e1.mo (fun x (hx : x = 94 ∨ x = 15) => by omega)).tr (a1.mo (fun x hx => by omega))
  unfold pText
  cases hres : pFld b n (sk b n 0) with
  | inl e =>
    rw [hres] at a3
    obtain ⟨b3, b4, b5⟩ := a3
    refine ⟨S2, e12, a2, b3, b4, ?_⟩
    rw [hrd, b5, q_cal, q_vi, if_pos rfl, z_br0]
  | inr w =>
    obtain ⟨f, p⟩ := w
    rw [hres] at a3
    obtain ⟨b1, b2, b3, b4, b5, b6, b7, b8⟩ := a3
    have hC : RC b n f 0 (fun _ _ => 0) S2 := ⟨hn, hb, b4, ⟨b3, b5, b6, by rw [b7]; exact v2, Nat.zero_le _, fun i hi => by have hi' : i < 0 := hi; omega⟩, hX1.eqo a1 (fun r hr h => by omega)⟩
    obtain ⟨S3, d1, d2⟩ := r_polys (A := A) 7 0 (fun _ _ => 0) FU S2 p (by decide) (by unfold FU; omega) hC b2
    have hT3 : TabC f S3 := b4.eqo d1 (fun r _ hr h => by omega)
    have e13 := e12.tr (d1.mo (Y := fun x => (1 ≤ x ∧ x ≤ 6) ∨ (15 ≤ x ∧ x < 23) ∨ x = 89 ∨ (94 ≤ x ∧ x ≤ 112)) (fun x hx => by omega))
    have hrd2 : fX2_read 94 (qH A S) = fX2_read_29 FU 94 (nI 0) (qH A S2) := by
      rw [hrd, b8, q_cal, q_vi, if_neg (by decide)]
      rfl
    show ∃ S', _ ∧ _ ∧ (match bnd (pPolys b n f 7 0 (fun _ _ => 0) p) (fun w => (.inr (f, w.1, w.2) : PR PS)) with | .inl e => _ | .inr σ => _)
    cases hres2 : pPolys b n f 7 0 (fun _ _ => 0) p with
    | inl e =>
      rw [hres2] at d2
      obtain ⟨x3, x4, x5⟩ := d2
      exact ⟨S3, e13, ⟨f, b3, hT3⟩, x3, x4, by rw [hrd2, x5]⟩
    | inr w =>
      rw [hres2] at d2
      obtain ⟨x0, x3, x5⟩ := d2
      exact ⟨S3, e13, ⟨f, b3, hT3⟩, by rw [x0, b1]; exact v1, x3, hT3, by rw [hrd2, x5]⟩
theorem oc_text (h : CI G S) (x : Int32) : cOK A S (fX6_text 0 x (qH A S)) (oN G 0 G.2.2.1.1 x fun n => gT G n) := by
  have hs : isSt 7 = true := by decide
  have ht : isSt 15 = true := by decide
  have h4 := h.2.2.2.1.1
  unfold fX6_text
  rw [gr_0_4, q_bs, gi_89_0, q_bs, h.2.2.2.1.2.1]
  refine c_N (lo := 0) (hi := G.2.2.1.1) h x rfl rfl (by omega) (Nat.zero_le _) (fun n _ hn e => ?_)
  subst e
  obtain ⟨h1, h2, h3, ⟨-, h5, h6⟩, h7, h8⟩ := h
  have hb : ∀ i, i < n → G.2.2.1.2 i < 256 := fun i hi => (h6 i (by omega)).2
  obtain ⟨S1, a1, a2, a3, a4⟩ := t_cut (A := A) (n := n) (b := G.2.2.1.2) (by omega) (fun i hi => h6 i (by omega))
  have hT1 : TabC G.1.1 S1 := h1.eqo a4 (fun r _ hr hx => by omega)
  obtain ⟨S2, b1, ⟨g, hg, hTg⟩, b3⟩ := r_read (A := A) (by omega) hb h2.1 hT1 a2 a3
  have e02 : eqo (fun x => (1 ≤ x ∧ x ≤ 6) ∨ (15 ≤ x ∧ x < 23) ∨ (89 ≤ x ∧ x ≤ 112)) S S2 := (a4.mo (fun x hx => by omega)).tr (b1.mo (fun x hx => by omega))
  have fin : ∀ v : Int32, S2.1 94 1 = v → (us S2 89 0 0).1 94 1 = v := fun v hv => by rw [us_ne (by decide)]; exact hv
  let S3 : Int32 → SS := fun v => us (us S2 89 0 0) 0 8 v
  have e23 : ∀ v, eqo (fun x => x = 0 ∨ x = 89) S2 (S3 v) := fun v => (eqo.us (Or.inr rfl)).tr (eqo.us (Or.inl rfl))
  have st3 : ∀ v, stR (S3 v) 7 G.1 := fun v => (h2.eqo e02 (fun r hr1 hr2 hx => by omega)).eqo (e23 v) (fun r hr1 hr2 (hx : r = 0 ∨ r = 89) => by omega)
  have hi3 : ∀ v, hiR (S3 v) G.2.1.1 G.2.1.2 := fun v => (h3.eqo e02 (fun r hr1 hr2 hx => by omega)).eqo (e23 v) (fun r hr1 hr2 (hx : r = 0 ∨ r = 89) => by omega)
  have r3 : ∀ v j, j < 3 → (S3 v).2.1 118 j = G.2.2.2.1 j := fun v j hj => by rw [((e23 v).1 118 (by decide)).2, (e02.1 118 (by omega)).2]; exact h7 j hj
  have x08 : ∀ v, (S3 v).1 0 8 = v := fun v => by show (us (us S2 89 0 0) 0 8 v).1 0 8 = v; rw [us_at, if_pos rfl]
  have x890 : ∀ v, (S3 v).1 89 0 = nI 0 := fun v => by show (us (us S2 89 0 0) 0 8 v).1 89 0 = _; rw [us_ne (by decide), us_at, if_pos rfl]; rfl
  have e03 : ∀ v, eqo (fun x => x ≤ 112) S (S3 v) := fun v => (e02.mo (fun x hx => by omega)).tr ((e23 v).mo (fun x (hx : x = 0 ∨ x = 89) => by omega))
  have hTg3 : ∀ v, TabC g (S3 v) := fun v => hTg.eqo (e23 v) (fun r _ hr (hx : r = 0 ∨ r = 89) => by omega)
  rw [gr_0_4, q_bs, ob_89, q_cv, a1, q_cal, q_vn, gr_0_5, q_bs, ob_94, q_cv]
  unfold gT
  cases hres : pText G.2.2.1.2 n with
  | inl e =>
    rw [hres] at b3
    obtain ⟨c1, c2, c3⟩ := b3
    obtain ⟨S4, d1, d2, d3⟩ := sX0_tune (A := A) (S := S3 (nI e.2)) h2.1 hg (hTg3 _)
    have e04 : eqo (fun x => x ≤ 112) S S4 := (e03 _).tr (d3.mo (fun x (hx : 1 ≤ x ∧ x ≤ 6) => by omega))
    refine ⟨S4, ⟨d2, (st3 (nI e.2)).eqo d3 (fun r hr1 hr2 (hx : 1 ≤ r ∧ r ≤ 6) => by omega), (hi3 (nI e.2)).eqo d3 (fun r hr1 hr2 (hx : 1 ≤ r ∧ r ≤ 6) => by omega), ⟨Nat.zero_le _, by rw [(d3.1 89 (by decide)).1]; exact x890 _, fun i hi => by have hi' : i < 0 := hi; omega⟩, fun j hj => by rw [(d3.1 118 (by decide)).2]; exact r3 _ j hj, by rw [(d3.1 0 (by decide)).1]; exact x08 _⟩, e04.mo (fun x hx => by omega), ?_⟩
    have p0 : (S3 (nI e.2)).1 7 0 = nI (pF G.1.1) := (st3 _).2.1
    have p1 : (S3 (nI e.2)).1 7 1 = nI (mF G.1.1) := (st3 _).2.2.1
    have k4 : S4.1 94 0 = nI e.1 := by
      rw [(d3.1 94 (by decide)).1, ((e23 (nI e.2)).1 94 (by decide)).1]
      exact c1
    rw [c3, q_cal, q_vi, gr_0_4, q_bs, pi_89_0, q_bs, gr_0_5, q_bs, gi_94_1, q_bs, fin _ c2, pi_0_8, q_bs, if_pos rfl, gr_0_0, q_bs, gr_0_1, q_bs, gi_st hs (by decide), q_bs, q_bs, gi_st hs (by decide), q_bs]
    rw [show (us (us S2 89 0 0) 0 8 (nI e.2)).1 7 0 = _ from p0, show (us (us S2 89 0 0) 0 8 (nI e.2)).1 7 1 = _ from p1, ob_1, q_cv]
    rw [show fX0_tune 1 (nI (pF G.1.1)) (nI (mF G.1.1)) (qH A (us (us S2 89 0 0) 0 8 (nI e.2))) = _ from d1, q_cal, q_vn, gr_0_5, q_bs, gi_94_0, q_bs, k4]
  | inr σ =>
    rw [hres] at b3
    obtain ⟨c1, c2, c3, c4⟩ := b3
    obtain ⟨S4, d1, d2, d3⟩ := sX1_keep (A := A) (S := S3 (-1)) (hi3 _) (st3 _)
    have st4 : stR S4 15 σ := (c2.eqo (e23 (-1)) (fun r hr1 hr2 (hx : r = 0 ∨ r = 89) => by omega)).eqo d3 (fun r hr1 hr2 (hx : 23 ≤ r ∧ r < 89) => by omega)
    obtain ⟨S5, j1, j2, j3⟩ := sX3_become (A := A) (S := S4) hs ht (by decide) st4
    have hT5 : TabC σ.1 S5 := ((c3.eqo (e23 (-1)) (fun r _ hr (hx : r = 0 ∨ r = 89) => by omega)).eqo d3 (fun r _ hr (hx : 23 ≤ r ∧ r < 89) => by omega)).eqo j3 (fun r _ hr (hx : 7 ≤ r ∧ r < 7 + 8) => by omega)
    have e05 : eqo (fun x => x ≤ 112) S S5 := ((e03 (-1)).tr (d3.mo (fun x (hx : 23 ≤ x ∧ x < 89) => by omega))).tr (j3.mo (fun x (hx : 7 ≤ x ∧ x < 7 + 8) => by omega))
    refine ⟨S5, ⟨hT5, j2, d2.eqo j3 (fun r hr1 hr2 (hx : 7 ≤ r ∧ r < 7 + 8) => by omega), ⟨Nat.zero_le _, by rw [(j3.1 89 (by decide)).1, (d3.1 89 (by decide)).1]; exact x890 _, fun i hi => by have hi' : i < 0 := hi; omega⟩, fun j hj => by rw [(j3.1 118 (by decide)).2, (d3.1 118 (by decide)).2]; exact r3 _ j hj, by rw [(j3.1 0 (by decide)).1, (d3.1 0 (by decide)).1]; exact x08 _⟩, e05.mo (fun x hx => by omega), ?_⟩
    rw [c4, q_cal, q_vi, gr_0_4, q_bs, pi_89_0, q_bs, gr_0_5, q_bs, gi_94_1, q_bs, fin _ c1, pi_0_8, q_bs, if_neg (by decide), gr_0_3, q_bs, gr_0_1, q_bs, ob_23, q_cv]
    rw [show fX1_keep 23 7 (qH A (us (us S2 89 0 0) 0 8 (-1))) = _ from d1, q_cal, q_vn, gr_0_1, q_bs, gr_0_2, q_bs, ob_st hs, q_cv, j1, q_cal, q_vn, gr_0_1, q_bs, gi_st hs (by decide), q_bs, j2.2.2.2.1]
end QTK
