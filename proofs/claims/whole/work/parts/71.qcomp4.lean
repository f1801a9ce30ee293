/-! the component's acts -/
def gH (G : GS) : GS := (G.1, (if 8 ≤ G.2.1.1 then 8 else G.2.1.1 + 1, fun k => if k = 0 then G.1 else G.2.1.2 (k - 1)), G.2.2)
theorem ci_now {G : GS} {S S' : SS} {σ : PS} {X : Nat → Prop} (h : CI G S) (hX : eqo X S S') (hn : ∀ b, X b → (7 ≤ b ∧ b < 15) ∨ (113 ≤ b ∧ b ≤ 117)) (hs : stR S' 7 σ) (hf : σ.1 = G.1.1) : CI (σ, G.2) S' := by
  obtain ⟨h1, h2, h3, ⟨h4, h5, h6⟩, h7, h8⟩ := h
  have no : ∀ b, b < 7 ∨ (15 ≤ b ∧ b < 113) ∨ 117 < b → ¬ X b := fun b hb hx => by have := hn b hx; omega
  refine ⟨?_, hs, h3.eqo hX (fun b _ hb => no b (by omega)), ⟨h4, by rw [(hX.1 89 (no 89 (by omega))).1]; exact h5, fun i hi => by rw [(hX.1 90 (no 90 (by omega))).2]; exact h6 i hi⟩, fun j hj => by rw [(hX.1 118 (no 118 (by omega))).2]; exact h7 j hj, by rw [(hX.1 0 (no 0 (by omega))).1]; exact h8⟩
  show TabC σ.1 S'
  rw [hf]
  exact h1.eqo hX (fun b _ hb => no b (by omega))
section QU
variable {A : AS} {S : SS} {G : GS}
theorem c_keep (h : CI G S) : ∃ S', fX1_keep 23 7 (qH A S) = some (.inl none, qH A S') ∧ CI (gH G) S' ∧ eqo (fun x => 23 ≤ x ∧ x < 89) S S' := by
  obtain ⟨h1, h2, h3, ⟨h4, h5, h6⟩, h7, h8⟩ := h
  obtain ⟨S', a1, a2, a3⟩ := sX1_keep (A := A) h3 h2
  refine ⟨S', a1, ⟨h1.eqo a3 (fun b _ hb => by omega), h2.eqo a3 (fun b _ hb => by omega), a2, ⟨h4, by rw [(a3.1 89 (by omega)).1]; exact h5, fun i hi => by rw [(a3.1 90 (by omega)).2]; exact h6 i hi⟩, fun j hj => by rw [(a3.1 118 (by omega)).2]; exact h7 j hj, by rw [(a3.1 0 (by omega)).1]; exact h8⟩, a3⟩
theorem c_retG {G' : GS} {S' : SS} {X : Nat → Prop} (h : CI G' S') (hX : eqo X S S') (hn : ∀ b, X b → b ≤ 118) {o : RR} {v : Value} (ho : o = some (.inl (some v), qH A S')) : cOK A S o (.inr v, G') := ⟨S', h, hX.mo hn, by rw [ho]⟩
def gV (G : GS) (p a v : Nat) : GS := ((G.1.1, G.1.2.1, fun i u => if i = p ∧ u = a then v else G.1.2.2 i u), (gH G).2)
theorem oc_value (h : CI G S) (x y z : Int32) : cOK A S (fX6_value 0 x y z (qH A S)) (oP G x fun p => oQ G y fun a => oQ G z fun v => (.inr (.int (nI (G.1.2.2 p a))), gV G p a v)) := by
  have hq := qz h.2.1.1
  unfold fX6_value
  refine c_P h x (fun p hp e => ?_)
  refine c_Q h y (fun a ha e2 => ?_)
  refine c_Q h z (fun v hv e3 => ?_)
  obtain ⟨S1, k1, k2, k3⟩ := c_keep (A := A) h
  obtain ⟨r1, r2, r3, r4⟩ := x_row (A := A) k2 hp
  have hX : eqo (fun x => x = 7 + 2 + p) S1 (ua S1 (7 + 2 + p) a (nI v)) := eqo.ua rfl
  have hst : stR (ua S1 (7 + 2 + p) a (nI v)) 7 (gV G p a v).1 := by
    obtain ⟨s1, s2, s3, s4, s5, s6⟩ := k2.2.1
    refine ⟨s1, s2, s3, s4, s5, fun i hi u hu => ?_⟩
    show _ = nI (if i = p ∧ u = a then v else G.1.2.2 i u) ∧ (if i = p ∧ u = a then v else G.1.2.2 i u) < qF G.1.1
    by_cases ei : i = p
    · subst ei
      rw [ua_at]
      by_cases eu : u = a
      · rw [if_pos eu, if_pos ⟨rfl, eu⟩]; exact ⟨rfl, hv⟩
      · rw [if_neg eu, if_neg (by omega)]; exact s6 i hi u hu
    · rw [ua_ne (by omega), if_neg (by omega)]; exact s6 i hi u hu
  have hci : CI (gV G p a v) (ua S1 (7 + 2 + p) a (nI v)) := ci_now k2 hX (fun b hb => by have : b = 7 + 2 + p := hb; omega) hst rfl
  refine c_retG hci ((k3.mo (Y := fun x => x ≤ 118) (fun b hb => by omega)).tr (hX.mo (fun b hb => by have : b = 7 + 2 + p := hb; omega))) (fun b hb => hb) ?_
  have hs : isSt 7 = true := by decide
  simp only [e, e2, e3, gr_0_3, gr_0_1, q_bs, ob_23, q_cv, k1, q_cal, q_vn, gr_st hs, r4, q_ai r2 (show a < 64 by omega), (r1 a ha).1, q_si r2 (show a < 64 by omega)]
  rfl
/-- a new row behind the others -/
def gN (G : GS) (R : Nat → Nat) : GS := ((G.1.1, G.1.2.1 + 1, fun i => if i = G.1.2.1 then R else G.1.2.2 i), (gH G).2)
theorem ci_new {S1 S2 : SS} {R : Nat → Nat} (h : CI (gH G) S1) (hc : G.1.2.1 < 6) (hr : rowR G.1.1 S2 (7 + 2 + G.1.2.1) R) (hX : eqo (fun x => x = 7 + 2 + G.1.2.1 ∨ x = 116 ∨ x = 117) S1 S2) : CI (gN G R) (us S2 7 2 (nI (G.1.2.1 + 1))) ∧ S2.1 7 2 = nI G.1.2.1 ∧ eqo (fun x => x ≤ 118) S1 (us S2 7 2 (nI (G.1.2.1 + 1))) := by
  obtain ⟨s1, s2, s3, s4, s5, s6⟩ := h.2.1
  have e7 : S2.1 7 = S1.1 7 := (hX.1 7 (by omega)).1
  have hX2 : eqo (fun x => x = 7 ∨ x = 7 + 2 + G.1.2.1 ∨ x = 116 ∨ x = 117) S1 (us S2 7 2 (nI (G.1.2.1 + 1))) := (hX.mo (fun b hb => Or.inr hb)).tr (eqo.us (Or.inl rfl))
  refine ⟨ci_now h hX2 (fun b hb => by omega) ⟨s1, ?_, ?_, ?_, by show G.1.2.1 + 1 ≤ 6; omega, fun i hi => ?_⟩ rfl, by rw [e7]; exact s4, hX2.mo (fun b hb => by omega)⟩
  · rw [us_at, if_neg (by decide), e7]; exact s2
  · rw [us_at, if_neg (by decide), e7]; exact s3
  · rw [us_at, if_pos rfl]
  · have hi' : i < G.1.2.1 + 1 := hi
    show rowR G.1.1 _ (7 + 2 + i) (if i = G.1.2.1 then R else G.1.2.2 i)
    by_cases e : i = G.1.2.1
    · rw [if_pos e, e]; exact hr
    · rw [if_neg e]
      have h9 : i < G.1.2.1 := by omega
      have := s6 i h9
      exact this.eqo hX2 (fun hx => by have : 7 + 2 + i = 7 ∨ 7 + 2 + i = 7 + 2 + G.1.2.1 ∨ 7 + 2 + i = 116 ∨ 7 + 2 + i = 117 := hx; omega)
theorem oc_after (h : CI G S) (x y : Int32) : cOK A S (fX6_after 0 x y (qH A S)) (oP G x fun p => oP G y fun r => oRm G (.inr (.int (nI G.1.2.1)), gN G (fun u => G.1.2.2 p (G.1.2.2 r u)))) := by
  have hq := qz h.2.1.1
  have hs : isSt 7 = true := by decide
  unfold fX6_after
  refine c_P h x (fun p hp e => ?_)
  refine c_P h y (fun r hr e2 => ?_)
  refine c_R h (fun hc => ?_)
  obtain ⟨S1, k1, k2, k3⟩ := c_keep (A := A) h
  obtain ⟨p1, p2, p3, p4⟩ := x_row (A := A) k2 hp
  obtain ⟨r1, r2, r3, r4⟩ := x_row (A := A) k2 hr
  have lm := ql_st (A := A) hs hc
  have hz : S1.1 1 2 = nI (qF G.1.1) := k2.1.2.2.2.2.2.2.1
  have h4 : S1.1 7 2 = nI G.1.2.1 := k2.2.1.2.2.2.1
  have hj := st_join (A := A) (S := S1) h.2.1.1 hz p2 r2 lm p1 r1 (show 7 + 2 + p ≠ 7 + 2 + G.1.2.1 by omega)
  obtain ⟨n1, n2, n3⟩ := ci_new (G := G) (R := fun u => G.1.2.2 p (G.1.2.2 r u)) k2 hc (rowR.fill (fun u hu => (p1 _ (r1 u hu).2).2)) (eqo.uA (S := S1) (g := fa_fill (fun j => nI (G.1.2.2 p (G.1.2.2 r j))) (S1.2.1 (7 + 2 + G.1.2.1)) (qF G.1.1)) (Or.inl rfl))
  refine c_retG n1 ((k3.mo (Y := fun x => x ≤ 118) (fun b hb => by omega)).tr n3) (fun b hb => hb) ?_
  simp only [e, e2, gr_0_3, gr_0_1, gr_0_6, q_bs, ob_23, ob_113, q_cv, k1, q_cal, q_vn, gr_st hs, p4, r4, gi_st hs (show 2 < 3 by decide), h4, ar_mx hs hc, hj, uA_s, nI_1, pi_st hs (show 2 < 3 by decide), us_at, if_true, nI_pred]
  rfl
end QU
