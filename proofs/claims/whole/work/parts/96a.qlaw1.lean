/-! the law's steps -/
theorem q_ct1 {v : Option Value} {h : AH} {K : Option Value → AH → RR} {E : Nat → AH → RR} : zct true (some (.inl v, h)) K E = K v h := q_mk rfl
theorem q_ct2 {e : Nat} {h : AH} {K : Option Value → AH → RR} {E : Nat → AH → RR} : zct true (some (.inr e, h)) K E = E e h := q_mk rfl
theorem ci_far {G : GS} {S S' : SS} {X : Nat → Prop} (h : CI G S) (hX : eqo X S S') (hn : ∀ b, X b → 119 ≤ b) : CI G S' := by
  obtain ⟨h1, h2, h3, ⟨h4, h5, h6⟩, h7, h8⟩ := h
  have no : ∀ b, b < 119 → ¬ X b := fun b hb hx => by have := hn b hx; omega
  exact ⟨h1.eqo hX (fun b _ hb => no b (by omega)), h2.eqo hX (fun b _ hb => no b (by omega)), h3.eqo hX (fun b _ hb => no b (by omega)), ⟨h4, by rw [(hX.1 89 (no 89 (by omega))).1]; exact h5, fun i hi => by rw [(hX.1 90 (no 90 (by omega))).2]; exact h6 i hi⟩, fun j hj => by rw [(hX.1 118 (no 118 (by omega))).2]; exact h7 j hj, by rw [(hX.1 0 (no 0 (by omega))).1]; exact h8⟩
theorem ci_uo {G : GS} {S : SS} {v : Int64} (h : CI G S) : CI G (uo S v) := h
theorem mi_uo {G : GS} {S : SS} {v : Int64} (h : MI G S) : MI G (uo S v) := h
/-- which refusals an outcome may be; its answers are ints -/
def zP (es : Nat → Prop) (z : OC) : Prop := (∀ e, z.1 = .inl e → es e) ∧ ∀ v, z.1 = .inr v → ∃ x, v = .int x
section QLA
variable {A : AS} {S : SS} {G : GS} {T : Nat → Nat} {es : Nat → Prop}
theorem zP_i {x : Int32} {G' : GS} : zP es (.inr (.int x), G') := ⟨fun e h => (by cases h), fun v h => (by cases h; exact ⟨x, rfl⟩)⟩
theorem zP_e {e : Nat} {G' : GS} (h : es e) : zP es (.inl e, G') := ⟨fun e' h' => (by cases h'; exact h), fun v h' => (by cases h')⟩
theorem zP_P {x : Int32} {z : Nat → OC} (h0 : es 0) (h : ∀ p, zP es (z p)) : zP es (oP G x z) := by
  unfold oP; split
  · exact h _
  · exact zP_e h0
theorem zP_Q {x : Int32} {z : Nat → OC} (h0 : es 0) (h : ∀ p, zP es (z p)) : zP es (oQ G x z) := by
  unfold oQ; split
  · exact h _
  · exact zP_e h0
theorem zP_N {lo hi : Nat} {x : Int32} {z : Nat → OC} (h0 : es 1) (h : ∀ p, zP es (z p)) : zP es (oN G lo hi x z) := by
  unfold oN; split
  · exact h _
  · exact zP_e h0
theorem zP_R {z : OC} (h0 : es 2) (h : zP es z) : zP es (oRm G z) := by
  unfold oRm; split
  · exact h
  · exact zP_e h0
theorem zP_M {p : Nat} {z : OC} (h0 : es 2) (h : zP es z) : zP es (oPm G p z) := by
  unfold oPm; split
  · exact h
  · exact zP_e h0
/-- the law after a call of both: the state that is left -/
def LO (A : AS) (z : OC) (A' : AS) (S' : SS) : Prop := CI z.2 S' ∧ MI z.2 S' ∧ A.1 ≤ A'.1 ∧ A'.1 ≤ A.1 + 152 ∧ A'.2.1 ≤ A.2.1 + 9728
def bothB (oc : RR) (E : Nat → AH → RR) (om : AH → RR) (K : AH → RR) (h : AH) : RR := zca (zct (zob h 0 6) oc (fun v h1 => zvi v fun x => (zsl h1 270 0 x.toInt64).bind fun h2 => some (.inl (some (.int 0)), h2)) E) fun v19 h20 => zvi v19 fun x21 => zcv (zob h20 119 7) (om h20) fun v23 h24 => zvi v23 fun x25 => zcv (zob h24 119 7) (fX7_thrown 119 h24) fun v26 h27 => zvi v26 fun x28 => if x28 = x21 then (if x21 = 0 then ((zal h27 270 0).bind fun x29 => if (lg_cmp x29 x25.toInt64) = 0 then K h27 else zbr 0 h27) else K h27) else zbr 0 h27
theorem m_thrown : fX7_thrown 119 (qH A S) = some (.inl (some (.int (S.1 119 0))), qH A S) := by
  unfold fX7_thrown
  rw [gi_119_0, q_bs]
theorem L_B {z : OC} {oc : RR} {E : Nat → AH → RR} {om : AH → RR} (hM : MI G S) (hc : cOK A S oc z) (hm : ∀ A1 S1, MI G S1 → mOK T (.int 0) A1 S1 (om (qH A1 S1)) z) (hz : zP (fun e => (∀ h1, E e h1 = some (.inl (some (.int (nI (T e)))), h1)) ∧ 0 < T e ∧ T e < 4) z) (K : AH → RR) : ∃ A' S', bothB oc E om K (qH A S) = K (qH A' S') ∧ LO A z A' S' := by
  obtain ⟨r, G'⟩ := z
  obtain ⟨S1, a1, a2, a3⟩ := hc
  have hM1 : MI G S1 := mi_eqo hM a2 (fun b (hb : b ≤ 118) => by omega)
  unfold bothB
  rw [ob_0]
  cases r with
  | inl e =>
    obtain ⟨hE, e0, e4⟩ := hz.1 e rfl
    have a3' : oc = some (.inr e, qH (qJ A) S1) := a3
    obtain ⟨S2, b1, b2, b3, b4⟩ := hm (qJ A) S1 hM1
    rw [a3', q_ct2, hE, q_cal, q_vi, ob_119, q_cv, b4, q_cal, q_vi, ob_119, q_cv, m_thrown, q_cal, q_vi, b3, if_pos rfl, if_neg (nI_ne0 e0 (by omega))]
    exact ⟨qJ A, S2, rfl, ci_far a1 b2 (fun b hb => hb.1), b1, Nat.le_succ _, by show A.1 + 1 ≤ _; omega, by show A.2.1 + 6 ≤ _; omega⟩
  | inr v =>
    obtain ⟨x, rfl⟩ := hz.2 v rfl
    have a3' : oc = some (.inl (some (.int x)), qH A S1) := a3
    obtain ⟨S2, b1, b2, b3, b4⟩ := hm A (uo S1 x.toInt64) (mi_uo hM1)
    have hout : S2.2.2 0 = x.toInt64 := by
      rw [b2.2]
      rfl
    rw [a3', q_ct1, q_vi, q_outs, q_bs, q_cal, q_vi, ob_119, q_cv, b4, q_cal, q_vi, ob_119, q_cv, m_thrown, q_cal, q_vi, b3, if_pos rfl, if_pos rfl, q_out, q_bs, hout, if_pos ((cmp0 _ _).mpr rfl)]
    exact ⟨A, S2, rfl, ci_far (ci_uo a1) b2 (fun b hb => hb.1), b1, Nat.le_refl _, by omega, by omega⟩
theorem L_T {z : OC} {oc : RR} {E : Nat → AH → RR} {om : AH → RR} (hA : 271 ≤ A.1) (hM : MI G S) (hc : cOK A S oc z) (hm : ∀ A1 S1, 271 ≤ A1.1 → MI G S1 → mOKt A1 S1 (om (qH A1 S1)) z) (hz : zP (fun e => ∀ h1, E e h1 = some (.inl (some (.int 1)), h1)) z) (hn : ∀ e, z.1 = .inl e → ∀ A1 S1, 271 ≤ A1.1 → MI G S1 → mOK tcC (.int 0) A1 S1 (om (qH A1 S1)) z) (K : AH → RR) : ∃ A' S', bothB oc E om K (qH A S) = K (qH A' S') ∧ LO A z A' S' := by
  obtain ⟨r, G'⟩ := z
  obtain ⟨S1, a1, a2, a3⟩ := hc
  have hM1 : MI G S1 := mi_eqo hM a2 (fun b (hb : b ≤ 118) => by omega)
  unfold bothB
  rw [ob_0]
  cases r with
  | inl e =>
    have hE := hz.1 e rfl
    have a3' : oc = some (.inr e, qH (qJ A) S1) := a3
    obtain ⟨S2, b1, b2, b3, b4⟩ := hn e rfl (qJ A) S1 (Nat.le_succ_of_le hA) hM1
    have b3' : S2.1 119 0 = 1 := b3
    rw [a3', q_ct2, hE, q_cal, q_vi, ob_119, q_cv, b4, q_cal, q_vi, ob_119, q_cv, m_thrown, q_cal, q_vi, b3', if_pos rfl, if_neg (by decide)]
    exact ⟨qJ A, S2, rfl, ci_far a1 b2 (fun b hb => hb.1), b1, Nat.le_succ _, by show A.1 + 1 ≤ _; omega, by show A.2.1 + 6 ≤ _; omega⟩
  | inr v =>
    obtain ⟨x, rfl⟩ := hz.2 v rfl
    have a3' : oc = some (.inl (some (.int x)), qH A S1) := a3
    obtain ⟨A2, S2, g1, g2, b1, b2, b3, b4⟩ := hm A (uo S1 x.toInt64) hA (mi_uo hM1)
    have hout : S2.2.2 0 = x.toInt64 := by
      rw [b2.2]
      rfl
    rw [a3', q_ct1, q_vi, q_outs, q_bs, q_cal, q_vi, ob_119, q_cv, b4, q_cal, q_vi, ob_119, q_cv, m_thrown, q_cal, q_vi, b3, if_pos rfl, if_pos rfl, q_out, q_bs, hout, if_pos ((cmp0 _ _).mpr rfl)]
    exact ⟨A2, S2, rfl, ci_far (ci_uo a1) b2 (fun b hb => by omega), b1, g1.1, g2, by have := g1.2.1; omega⟩
def bothI (oc : RR) (om : AH → RR) (K : AH → RR) (h : AH) : RR := zcv (zob h 0 6) oc fun v7 h8 => zvi v7 fun x9 => zcv (zob h8 119 7) (om h8) fun v15 h16 => zvi v15 fun x17 => if x9 = x17 then K h16 else zbr 0 h16
theorem L_I {z : OC} {oc : RR} {om : AH → RR} (hM : MI G S) (hc : cOK A S oc z) (hm : ∀ S1, MI G S1 → mOK T (.int 0) A S1 (om (qH A S1)) z) (hz : zP (fun _ => False) z) (K : AH → RR) : ∃ A' S', bothI oc om K (qH A S) = K (qH A' S') ∧ LO A z A' S' := by
  obtain ⟨r, G'⟩ := z
  obtain ⟨S1, a1, a2, a3⟩ := hc
  have hM1 : MI G S1 := mi_eqo hM a2 (fun b (hb : b ≤ 118) => by omega)
  unfold bothI
  cases r with
  | inl e => exact absurd (hz.1 e rfl) id
  | inr v =>
    obtain ⟨x, rfl⟩ := hz.2 v rfl
    have a3' : oc = some (.inl (some (.int x)), qH A S1) := a3
    obtain ⟨S2, b1, b2, b3, b4⟩ := hm S1 hM1
    rw [ob_0, q_cv, a3', q_cal, q_vi, ob_119, q_cv, b4, q_cal, q_vi, if_pos rfl]
    exact ⟨A, S2, rfl, ci_far a1 b2 (fun b hb => hb.1), b1, Nat.le_refl _, by omega, by omega⟩
def bothJ (oc : RR) (om : AH → RR) (K : AH → RR) (h : AH) : RR := zcv (zob h 0 6) oc fun v7 h8 => zvj v7 fun x9 => zcv (zob h8 119 7) (om h8) fun v15 h16 => zvj v15 fun x17 => if (lg_cmp x9 x17) = 0 then K h16 else zbr 0 h16
theorem L_J {x : Int64} {G' : GS} {oc : RR} {om : AH → RR} (hM : MI G S) (hc : cOK A S oc (.inr (.long x), G')) (hm : ∀ S1, MI G S1 → mOK T (.int 0) A S1 (om (qH A S1)) (.inr (.long x), G')) (K : AH → RR) : ∃ A' S', bothJ oc om K (qH A S) = K (qH A' S') ∧ LO A (.inr (.long x), G') A' S' := by
  obtain ⟨S1, a1, a2, a3⟩ := hc
  have hM1 : MI G S1 := mi_eqo hM a2 (fun b (hb : b ≤ 118) => by omega)
  unfold bothJ
  have a3' : oc = some (.inl (some (.long x)), qH A S1) := a3
  obtain ⟨S2, b1, b2, b3, b4⟩ := hm S1 hM1
  rw [ob_0, q_cv, a3', q_cal, q_vj, ob_119, q_cv, b4, q_cal, q_vj, if_pos ((cmp0 _ _).mpr rfl)]
  exact ⟨A, S2, rfl, ci_far a1 b2 (fun b hb => hb.1), b1, Nat.le_refl _, by omega, by omega⟩
def bothD (oc : RR) (E : Nat → AH → RR) (om : AH → RR) (K : AH → RR) (h : AH) : RR := zca (zct (zob h 0 6) oc (fun v h1 => zvj v fun x => (zsl h1 270 0 x).bind fun h2 => some (.inl (some (.int 0)), h2)) E) fun v19 h20 => zvi v19 fun x21 => zcv (zob h20 119 7) (om h20) fun v23 h24 => zvj v23 fun x25 => zcv (zob h24 119 7) (fX7_thrown 119 h24) fun v26 h27 => zvi v26 fun x28 => if x28 = x21 then (if x21 = 0 then ((zal h27 270 0).bind fun x29 => if (lg_cmp x29 x25) = 0 then K h27 else zbr 0 h27) else K h27) else zbr 0 h27
theorem L_D {z : OC} {oc : RR} {E : Nat → AH → RR} {om : AH → RR} (hM : MI G S) (hc : cOK A S oc z) (hm : ∀ A1 S1, MI G S1 → mOK T (.long 0) A1 S1 (om (qH A1 S1)) z) (hz : (∀ e, z.1 = .inl e → (∀ h1, E e h1 = some (.inl (some (.int (nI (T e)))), h1)) ∧ 0 < T e ∧ T e < 4) ∧ ∀ v, z.1 = .inr v → ∃ x, v = .long x) (K : AH → RR) : ∃ A' S', bothD oc E om K (qH A S) = K (qH A' S') ∧ LO A z A' S' := by
  obtain ⟨r, G'⟩ := z
  obtain ⟨S1, a1, a2, a3⟩ := hc
  have hM1 : MI G S1 := mi_eqo hM a2 (fun b (hb : b ≤ 118) => by omega)
  unfold bothD
  rw [ob_0]
  cases r with
  | inl e =>
    obtain ⟨hE, e0, e4⟩ := hz.1 e rfl
    have a3' : oc = some (.inr e, qH (qJ A) S1) := a3
    obtain ⟨S2, b1, b2, b3, b4⟩ := hm (qJ A) S1 hM1
    rw [a3', q_ct2, hE, q_cal, q_vi, ob_119, q_cv, b4, q_cal, q_vj, ob_119, q_cv, m_thrown, q_cal, q_vi, b3, if_pos rfl, if_neg (nI_ne0 e0 (by omega))]
    exact ⟨qJ A, S2, rfl, ci_far a1 b2 (fun b hb => hb.1), b1, Nat.le_succ _, by show A.1 + 1 ≤ _; omega, by show A.2.1 + 6 ≤ _; omega⟩
  | inr v =>
    obtain ⟨x, rfl⟩ := hz.2 v rfl
    have a3' : oc = some (.inl (some (.long x)), qH A S1) := a3
    obtain ⟨S2, b1, b2, b3, b4⟩ := hm A (uo S1 x) (mi_uo hM1)
    have hout : S2.2.2 0 = x := by
      rw [b2.2]
      rfl
    rw [a3', q_ct1, q_vj, q_outs, q_bs, q_cal, q_vi, ob_119, q_cv, b4, q_cal, q_vj, ob_119, q_cv, m_thrown, q_cal, q_vi, b3, if_pos rfl, if_pos rfl, q_out, q_bs, hout, if_pos ((cmp0 _ _).mpr rfl)]
    exact ⟨A, S2, rfl, ci_far (ci_uo a1) b2 (fun b hb => hb.1), b1, Nat.le_refl _, by omega, by omega⟩
end QLA
