/-! texts as a whole -/
def prW (v : Nat) : Bool := (List.range nF).any (fun f => pF f == v)
def fOf (v m : Nat) : Option Nat := (List.range nF).find? (fun f => pF f == v && mF f == m)
theorem prW_ok : ∀ v, v < 65 → (prW v = true ↔ (2 ≤ v ∧ ∀ d, d < v → 2 ≤ d → v % d ≠ 0)) := by decide +kernel
theorem fOf_ok : ∀ v, v < 65 → prW v = true → ∀ m, m < 65 → (fOf v m).isSome = (decide (1 ≤ m) && decide (v ^ m ≤ 64)) := by decide +kernel
theorem fOf_of {v m f : Nat} (h : fOf v m = some f) : f < nF ∧ pF f = v ∧ mF f = m := by
  unfold fOf at h
  have h1 := List.find?_some h
  have h2 := List.mem_of_find?_eq_some h
  have h3 := List.mem_range.mp h2
  simp at h1
  exact ⟨h3, h1.1, h1.2⟩
section QTI
variable (b : Nat → Nat) (n : Nat)
noncomputable def pFld (p : Nat) : PR (Nat × Nat) :=
  if kd b n p = 2 then bnd (seeN b n (nx b n p) 65) (fun v => if prW v = true then bnd (seeN b n (nx b n (nx b n p)) 65) (fun m => match fOf v m with
    | none => .inl (2, nx b n (nx b n p))
    | some f => if kd b n (nx b n (nx b n (nx b n p))) = 59 then .inr (f, nx b n (nx b n (nx b n (nx b n p)))) else .inl (1, nx b n (nx b n (nx b n p)))) else .inl (2, nx b n p))
  else .inl (1, p)
noncomputable def pPolys (f : Nat) : Nat → Nat → (Nat → Nat → Nat) → Nat → PR (Nat × (Nat → Nat → Nat))
  | 0, c, W, _ => .inr (c, W)
  | k + 1, c, W, p => if kd b n p = 0 then .inr (c, W) else if kd b n p = 3 then (if c < 6 then bnd (pS b n f c W (pBr b n f c W 4) (nx b n p)) (fun r => if kd b n r.2 = 59 then pPolys f k (c + 1) (fun i => if i = c then r.1 else W i) (nx b n r.2) else .inl (1, r.2)) else .inl (3, p)) else .inl (1, p)
noncomputable def pText : PR PS := bnd (pFld b n (sk b n 0)) (fun g => bnd (pPolys b n g.1 7 0 (fun _ _ => 0) g.2) (fun w => .inr (g.1, w.1, w.2)))
end QTI
section QTJ
variable {A : AS} {S : SS} {b : Nat → Nat} {n f c p : Nat} {W : Nat → Nat → Nat}
theorem r_prime {v : Nat} (hv : v < 65) : fX2_isPrime (nI v) (qH A S) = some (.inl (some (.int (if prW v = true then 1 else 0))), qH A S) := by
  have hw := prW_ok v hv
  have key : ∀ d e K, v ≤ e + d → d < K → 2 ≤ e → e < 100 → (∀ i, i < e → 2 ≤ i → v % i ≠ 0) → fX2_isPrime_2 K (nI v) (nI e) (qH A S) = some (.inl (some (.int (if prW v = true then 1 else 0))), qH A S) := by
    intro d
    induction d with
    | zero =>
      intro e K h1 h2 h3 h9 h4
      obtain ⟨K, rfl⟩ : ∃ k', K = k' + 1 := ⟨K - 1, by omega⟩
      rw [fX2_isPrime_2, if_pos (by rw [nI_leI (by omega) (by omega)]; omega), z_br0, z_br1]
      by_cases c : v < 2
      · rw [if_pos (by rw [qlit, nI_ltI (by omega) (by decide)]; exact c), if_neg (fun h => by have := (hw.mp h).1; omega)]
      · rw [if_neg (by rw [qlit, nI_ltI (by omega) (by decide)]; exact c), if_pos (hw.mpr ⟨by omega, fun i hi => h4 i (by omega)⟩)]
    | succ d ih =>
      intro e K h1 h2 h3 h9 h4
      obtain ⟨K, rfl⟩ : ∃ k', K = k' + 1 := ⟨K - 1, by omega⟩
      rw [fX2_isPrime_2]
      by_cases c0 : v ≤ e
      · rw [if_pos (by rw [nI_leI (by omega) (by omega)]; exact c0), z_br0, z_br1]
        by_cases c : v < 2
        · rw [if_pos (by rw [qlit, nI_ltI (by omega) (by decide)]; exact c), if_neg (fun h => by have := (hw.mp h).1; omega)]
        · rw [if_neg (by rw [qlit, nI_ltI (by omega) (by decide)]; exact c), if_pos (hw.mpr ⟨by omega, fun i hi => h4 i (by omega)⟩)]
      · have hl := Nat.mod_lt v (show 0 < e by omega)
        rw [if_neg (by rw [nI_leI (by omega) (by omega)]; exact c0), if_neg (nI_ne0 (by omega) (by omega)), pk_rem (by omega) (by omega) (by omega), nI_1]
        by_cases c : v % e = 0
        · rw [if_pos (by rw [c]; rfl), z_br0, if_neg (fun h => (hw.mp h).2 e (by omega) h3 c)]
        · rw [if_neg (by rw [qlit, nI_eq (by omega) (by decide)]; exact c)]
          refine ih (e + 1) K (by omega) (by omega) (by omega) (by omega) (fun i hi h5 => ?_)
          by_cases e9 : i = e
          · rw [e9]; exact c
          · exact h4 i (by omega) h5
  unfold fX2_isPrime
  exact key 64 2 FU (by omega) (by unfold FU; omega) (by decide) (by decide) (fun i hi h5 => by omega)
/-- what reading comes to -/
def fOK (b : Nat → Nat) (n : Nat) (A : AS) (S : SS) (o : RR) (res : PR (Nat × Nat)) : Prop := ∃ S', eqo (fun x => (1 ≤ x ∧ x ≤ 6) ∨ x = 15 ∨ x = 89 ∨ x = 94) S S' ∧ (∃ g, g < nF ∧ TabC g S') ∧ (match res with | .inl e => S'.1 94 0 = nI e.1 ∧ S'.1 94 1 = nI e.2 ∧ o = some (.inl (some (.int 0)), qH A S') | .inr r => S'.1 94 = S.1 94 ∧ TP b n S' r.2 ∧ r.1 < nF ∧ TabC r.1 S' ∧ S'.1 15 0 = nI (pF r.1) ∧ S'.1 15 1 = nI (mF r.1) ∧ S'.1 15 2 = S.1 15 2 ∧ o = some (.inl (some (.int 1)), qH A S'))
theorem f_no {g : Nat} (hg : g < nF) (hT : TabC g S) (hp : TP b n S p) {k : Nat} {o : RR} (ho : o = some (.inl (some (.int 0)), qH A (us (us S 94 0 (nI k)) 94 1 (nI p)))) : fOK b n A S o (.inl (k, p)) :=
  ⟨us (us S 94 0 (nI k)) 94 1 (nI p), (eqo.us (by decide)).tr (eqo.us (by decide)), ⟨g, hg, hT.eqo ((eqo.us (X := fun x => x = 94) rfl).tr (eqo.us rfl)) (fun r _ hr (hx : r = 94) => by omega)⟩, by rw [us_at, if_neg (by decide), us_at, if_pos rfl], by rw [us_at, if_pos rfl], ho⟩
theorem f_tr {S1 : SS} {o : RR} {res : PR (Nat × Nat)} (hX : eqo (fun x => x = 89) S S1) (h : fOK b n A S1 o res) : fOK b n A S o res := by
  obtain ⟨S', a1, a2, a3⟩ := h
  have e : eqo (fun x => (1 ≤ x ∧ x ≤ 6) ∨ x = 15 ∨ x = 89 ∨ x = 94) S S' := (hX.mo (fun x (hx : x = 89) => by omega)).tr a1
  cases res with
  | inl e => exact ⟨S', by assumption, a2, a3⟩
  | inr r =>
    obtain ⟨b1, b2, b3, b4, b5, b6, b7, b8⟩ := a3
    exact ⟨S', by assumption, a2, b1.trans (hX.1 94 (by decide)).1, b2, b3, b4, b5, b6, by rw [b7, (hX.1 15 (by decide)).1], b8⟩
theorem r_field {g : Nat} (hn : n ≤ 300) (hb : ∀ i, i < n → b i < 256) (hg : g < nF) (hT : TabC g S) (hX : TX b n S) (hp : TP b n S p) : fOK b n A S (fX2_readField 94 (qH A S)) (pFld b n p) := by
  have hs : isSt 15 = true := by decide
  have hk := kd_256 (n := n) (p := p) hb
  unfold fX2_readField pFld
  rw [gr_94_2, q_bs, gi_89_1, q_bs, tp_k hp]
  by_cases c1 : kd b n p = 2
  · obtain ⟨S1, a1, a2, a3⟩ := t_step (A := A) hn hb hX hp (by omega)
    have hX1 : TX b n S1 := hX.eqo a3 (fun r hr (h : r = 89) => by omega)
    have hT1 : TabC g S1 := hT.eqo a3 (fun r _ hr (h : r = 89) => by omega)
    rw [if_pos c1, if_pos (by rw [c1]; rfl), q_bs, ob_89, q_cv, a1, q_cal, q_vn, ob_94, q_cv]
    refine f_tr a3 ?_
    rcases r_see (A := A) hb a2 (lim := 65) (m := 64) (by decide) (by decide) with ⟨v, s1, s2, s3, s4, s5⟩ | ⟨k, s1, s2⟩
    · rw [s1, s5, q_cal, q_vi, if_neg (by decide), gr_94_2, q_bs, gi_89_3, q_bs, s4, r_prime s2, q_cal, q_vi]
      show fOK b n A S1 _ (if prW v = true then _ else _)
      by_cases c2 : prW v = true
      · have v2 := ((prW_ok v s2).mp c2).1
        obtain ⟨S2, b1, b2, b3⟩ := t_step (A := A) hn hb hX1 a2 (by omega)
        have hX2 : TX b n S2 := hX1.eqo b3 (fun r hr (h : r = 89) => by omega)
        have hT2 : TabC g S2 := hT1.eqo b3 (fun r _ hr (h : r = 89) => by omega)
        rw [if_pos c2, if_pos c2, if_neg (by decide), gr_94_2, q_bs, ob_89, q_cv, b1, q_cal, q_vn, ob_94, q_cv]
        refine f_tr b3 ?_
        rcases r_see (A := A) hb b2 (lim := 65) (m := 64) (by decide) (by decide) with ⟨m, t1, t2, t3, t4, t5⟩ | ⟨k, t1, t2⟩
        · have r96 : fX2_readField_96 94 (qH A S2) = some (.inl (some (.int 0)), qH A (us (us S2 94 0 (nI 2)) 94 1 (nI (nx b n (nx b n p))))) := by
            unfold fX2_readField_96
            rw [ob_94, q_cv, r_refuse b2, q_cal, q_vi, z_br0]
            rfl
          have hso := fOf_ok v s2 c2 m t2
          obtain ⟨w, j, e1, e2, e3, e4, e5⟩ := sX0_sizeOf (A := A) (S := S2) (p := v) (m := m) v2 (by omega) (by omega)
          have hw64 : w ≤ 64 ↔ v ^ m ≤ 64 := by
            constructor
            · intro h
              rcases e4 with e4 | e4
              · rw [← e4, ← e2]; exact h
              · omega
            · intro h
              have : v ^ j ≤ v ^ m := Nat.pow_le_pow_right (by omega) e5
              omega
          rw [t1, t5, q_cal, q_vi, if_neg (by decide), gr_94_2, q_bs, gi_89_3, q_bs, t4]
          show fOK b n A S2 _ (match fOf v m with | none => .inl (2, nx b n (nx b n p)) | some f => _)
          cases hfo : fOf v m with
          | none =>
            rw [hfo] at hso
            have hbad : ¬ (1 ≤ m ∧ v ^ m ≤ 64) := by
              intro h
              have : (decide (1 ≤ m) && decide (v ^ m ≤ 64)) = true := by simp [h.1, h.2]
              rw [this] at hso
              exact absurd hso (by decide)
            by_cases m0 : m = 0
            · rw [if_pos (by rw [m0]; rfl)]
              exact f_no hg hT2 b2 r96
            · rw [if_neg (by rw [qlit, nI_eq (by omega) (by decide)]; exact m0), e1, q_cal, q_vi, if_neg (by rw [qlit, nI_leI (by omega) (by decide), hw64]; exact fun h => hbad ⟨by omega, h⟩)]
              exact f_no hg hT2 b2 r96
          | some f =>
            rw [hfo] at hso
            obtain ⟨f1, f2, f3⟩ := fOf_of hfo
            have hok : 1 ≤ m ∧ v ^ m ≤ 64 := by
              have : (decide (1 ≤ m) && decide (v ^ m ≤ 64)) = true := hso.symm
              simpa using this
            obtain ⟨S3, d1, d2, d3⟩ := t_step (A := A) hn hb hX2 b2 (by omega)
            have hX3 : TX b n S3 := hX2.eqo d3 (fun r hr (h : r = 89) => by omega)
            have hT3 : TabC g S3 := hT2.eqo d3 (fun r _ hr (h : r = 89) => by omega)
            let S4 := us (us S3 15 0 (nI v)) 15 1 (nI m)
            have e34 : eqo (fun x => x = 15) S3 S4 := (eqo.us (X := fun x => x = 15) rfl).tr (eqo.us rfl)
            have hT4 : TabC g S4 := hT3.eqo e34 (fun r _ hr (h : r = 15) => by omega)
            obtain ⟨S5, g1, g2, g3⟩ := sX0_tune (A := A) (S := S4) f1 hg hT4
            rw [f2, f3] at g1
            have hp5 : TP b n S5 (nx b n (nx b n (nx b n p))) := (d2.eqo e34 (by decide)).eqo g3 (by decide)
            have hX5 : TX b n S5 := (hX3.eqo e34 (fun r hr (h : r = 15) => by omega)).eqo g3 (fun r hr (h : 1 ≤ r ∧ r ≤ 6) => by omega)
            have e25 : eqo (fun x => (1 ≤ x ∧ x ≤ 6) ∨ x = 15 ∨ x = 89 ∨ x = 94) S2 S5 := ((d3.mo (fun x (hx : x = 89) => by omega)).tr (e34.mo (fun x (hx : x = 15) => by omega))).tr (g3.mo (fun x hx => Or.inl hx))
            have k3 := kd_256 (n := n) (p := nx b n (nx b n (nx b n p))) hb
            have hd0 : S5.1 15 0 = nI v := by
              rw [(g3.1 15 (by decide)).1]
              show (us (us S3 15 0 (nI v)) 15 1 (nI m)).1 15 0 = _
              rw [us_at, if_neg (by decide), us_at, if_pos rfl]
            have hd1 : S5.1 15 1 = nI m := by
              rw [(g3.1 15 (by decide)).1]
              show (us (us S3 15 0 (nI v)) 15 1 (nI m)).1 15 1 = _
              rw [us_at, if_pos rfl]
            have hd2 : S5.1 15 2 = S2.1 15 2 := by
              rw [(g3.1 15 (by decide)).1]
              show (us (us S3 15 0 (nI v)) 15 1 (nI m)).1 15 2 = _
              rw [us_at, if_neg (by decide), us_at, if_neg (by decide), (d3.1 15 (by decide)).1]
            have h94 : S5.1 94 = S2.1 94 := by
              rw [(g3.1 94 (by decide)).1, (e34.1 94 (by decide)).1, (d3.1 94 (by decide)).1]
            rw [if_neg (by rw [qlit, nI_eq (by omega) (by decide)]; omega), e1, q_cal, q_vi, if_pos (by rw [qlit, nI_leI (by omega) (by decide), hw64]; exact hok.2), gr_94_2, q_bs, ob_89, q_cv, d1, q_cal, q_vn, gr_94_4, q_bs, pi_st hs (by decide), q_bs, gr_94_4, q_bs, pi_st hs (by decide), q_bs, gr_94_3, q_bs, ob_1, q_cv]
            rw [show fX0_tune 1 (nI v) (nI m) (qH A (us (us S3 15 0 (nI v)) 15 1 (nI m))) = _ from g1, q_cal, q_vn, ob_94, q_cv]
            unfold fX2_takeSign
            rw [gr_94_2, q_bs, gi_89_1, q_bs, tp_k hp5]
            show fOK b n A S2 _ (if kd b n (nx b n (nx b n (nx b n p))) = 59 then _ else _)
            by_cases c9 : kd b n (nx b n (nx b n (nx b n p))) = 59
            · obtain ⟨S6, j1, j2, j3⟩ := t_step (A := A) hn hb hX5 hp5 (by omega)
              rw [if_pos c9, if_pos (by rw [c9]; rfl), q_bs, ob_89, q_cv, j1, q_cal, q_vn, z_br1, q_cal, q_vi, z_br1]
              have hT6 : TabC f S6 := g2.eqo j3 (fun r _ hr (h : r = 89) => by omega)
              exact ⟨S6, e25.tr (j3.mo (fun x (hx : x = 89) => by omega)), ⟨f, f1, hT6⟩, by rw [(j3.1 94 (by decide)).1, h94], j2, f1, hT6, by rw [(j3.1 15 (by decide)).1, f2]; exact hd0, by rw [(j3.1 15 (by decide)).1, f3]; exact hd1, by rw [(j3.1 15 (by decide)).1]; exact hd2, rfl⟩
            · rw [if_neg c9, if_neg (by rw [qlit, nI_eq (by omega) (by decide)]; exact c9), ob_94, q_cv, r_refuse hp5, q_cal, q_vi, z_br0, q_cal, q_vi, z_br0]
              obtain ⟨S', x1, x2, x3, x4, x5⟩ := f_no (A := A) (k := 1) f1 g2 hp5 rfl
              exact ⟨S', e25.tr x1, x2, x3, x4, x5⟩
        · rw [t1, t2, q_cal, q_vi, if_pos rfl, z_br0]
          exact f_no hg hT2 b2 rfl
      · rw [if_neg c2, if_neg c2, if_pos rfl, ob_94, q_cv, r_refuse a2, q_cal, q_vi, z_br0]
        exact f_no (k := 2) hg hT1 a2 rfl
    · rw [s1, s2, q_cal, q_vi, if_pos rfl, z_br0]
      exact f_no hg hT1 a2 rfl
  · rw [if_neg c1, if_neg (by rw [qlit, nI_eq (by omega) (by decide)]; exact c1), ob_94, q_cv, r_refuse hp, q_cal, q_vi, z_br0]
    exact f_no (k := 1) hg hT hp rfl
/-- what the reading of rows comes to -/
def gOK (n f : Nat) (A : AS) (S : SS) (o : RR) (res : PR (Nat × (Nat → Nat → Nat))) : Prop := ∃ S', eqo (fun x => (15 ≤ x ∧ x < 23) ∨ x = 89 ∨ (94 ≤ x ∧ x ≤ 112)) S S' ∧ (match res with | .inl e => S'.1 94 0 = nI e.1 ∧ S'.1 94 1 = nI e.2 ∧ o = some (.inl (some (.int 0)), qH A S') | .inr r => S'.1 94 = S.1 94 ∧ stR S' 15 (f, r.1, r.2) ∧ o = some (.inl (some (.int 1)), qH A S'))
theorem g_no (hp : TP b n S p) {k : Nat} {o : RR} (ho : o = some (.inl (some (.int 0)), qH A (us (us S 94 0 (nI k)) 94 1 (nI p)))) : gOK n f A S o (.inl (k, p)) :=
  ⟨us (us S 94 0 (nI k)) 94 1 (nI p), (eqo.us (by decide)).tr (eqo.us (by decide)), by rw [us_at, if_neg (by decide), us_at, if_pos rfl], by rw [us_at, if_pos rfl], ho⟩
theorem g_tr {S1 : SS} {o : RR} {res : PR (Nat × (Nat → Nat → Nat))} (hX : eqo (fun x => (15 ≤ x ∧ x < 23) ∨ x = 89 ∨ (94 ≤ x ∧ x ≤ 112)) S S1) (h4 : S1.1 94 = S.1 94) (h : gOK n f A S1 o res) : gOK n f A S o res := by
  obtain ⟨S', a1, a2⟩ := h
  cases res with
  | inl e => exact ⟨S', hX.tr a1, a2⟩
  | inr r => exact ⟨S', hX.tr a1, a2.1.trans h4, a2.2⟩
theorem r_polys : ∀ k c W K S p, c + k = 7 → k < K → RC b n f c W S → TP b n S p → gOK n f A S (fX2_read_29 K 94 (nI c) (qH A S)) (pPolys b n f k c W p) := by
  have hs : isSt 15 = true := by decide
  intro k
  induction k with
  | zero =>
    intro c W K S p h1 h2 hC hp
    have : c ≤ 6 := hC.2.2.2.1.2.2.2.2.1
    omega
  | succ k ih =>
    intro c W K S p h1 h2 hC hp
    obtain ⟨K, rfl⟩ : ∃ k', K = k' + 1 := ⟨K - 1, by omega⟩
    have hf : f < nF := hC.2.2.2.1.1
    have hcn : S.1 15 2 = nI c := hC.2.2.2.1.2.2.2.1
    have hk := kd_256 (n := n) (p := p) hC.2.1
    rw [fX2_read_29, if_neg (by rw [qlit, nI_ltI (by decide) (by omega)]; omega), gr_94_2, q_bs, gi_89_1, q_bs, tp_k hp, pPolys]
    by_cases c0 : kd b n p = 0
    · rw [if_pos c0, if_pos (by rw [c0]; rfl), z_br1]
      exact ⟨S, eqo.rf, rfl, hC.2.2.2.1, rfl⟩
    rw [if_neg c0, if_neg (by rw [qlit, nI_eq (by omega) (by decide)]; exact c0), q_bs, gi_89_1, q_bs, tp_k hp]
    by_cases c3 : kd b n p = 3
    · rw [if_pos c3, if_pos (by rw [c3]; rfl), gr_94_4, q_bs, gi_st hs (by decide), q_bs, hcn]
      by_cases c6 : c < 6
      · obtain ⟨S1, a1, a2, a3⟩ := t_step (A := A) hC.1 hC.2.1 hC.2.2.2.2 hp (by omega)
        have hC1 : RC b n f c W S1 := rc_eqo hC a3 (fun x (hx : x = 89) => Or.inl hx)
        rw [if_pos c6, if_pos (by rw [qlit, nI_ltI (by omega) (by decide)]; exact c6), q_bs, ob_89, q_cv, a1, q_cal, q_vn, ob_94, q_cv]
        refine g_tr (a3.mo (fun x (hx : x = 89) => by omega)) (a3.1 94 (by decide)).1 ?_
        obtain ⟨S2, b1, b2⟩ := r_sum (A := A) 4 11 (by decide) (by decide) S1 _ hC1 a2
        have mo : ∀ x, Xs 0 x → (15 ≤ x ∧ x < 23) ∨ x = 89 ∨ (94 ≤ x ∧ x ≤ 112) := fun x hx => by have := xs_in hx; omega
        cases hres : pS b n f c W (pBr b n f c W 4) (nx b n p) with
        | inl e =>
          rw [hres] at b2
          obtain ⟨b3, b4, b5⟩ := b2
          rw [show fX2_readSum 12 94 0 (qH A S1) = _ from b5, q_cal, q_vi, if_pos rfl, z_br0]
          exact ⟨S2, b1.mo mo, b3, b4, rfl⟩
        | inr w =>
          obtain ⟨R, p9⟩ := w
          rw [hres] at b2
          obtain ⟨b0, b3', b4, b5⟩ := b2
          have b3 : TP b n S2 p9 := b3'
          have hC2 : RC b n f c W S2 := rc_eqo hC1 b1 (fun x hx => xs_in hx)
          have hk9 := kd_256 (n := n) (p := p9) hC.2.1
          refine g_tr (b1.mo mo) b0 ?_
          rw [show fX2_readSum 12 94 0 (qH A S1) = _ from b5, q_cal, q_vi, if_neg (by decide), ob_94, q_cv]
          unfold fX2_takeSign
          rw [gr_94_2, q_bs, gi_89_1, q_bs, tp_k b3]
          show gOK n f A S2 _ (if kd b n p9 = 59 then pPolys b n f k (c + 1) (fun i => if i = c then R else W i) (nx b n p9) else .inl (1, p9))
          by_cases c9 : kd b n p9 = 59
          · obtain ⟨S3, j1, j2, j3⟩ := t_step (A := A) hC.1 hC.2.1 hC2.2.2.2.2 b3 (by omega)
            have hC3 : RC b n f c W S3 := rc_eqo hC2 j3 (fun x (hx : x = 89) => Or.inl hx)
            have hcn3 : S3.1 15 2 = nI c := hC3.2.2.2.1.2.2.2.1
            let S4 := uA S3 (15 + 2 + c) (fun j => if j < 64 then S3.2.1 (95 + 1 + 0) j else S3.2.1 (15 + 2 + c) j)
            let S5 := us S4 15 2 (nI (c + 1))
            have e45 : eqo (fun x => x = 15 ∨ x = 15 + 2 + c) S3 S5 := (eqo.uA (Or.inr rfl)).tr (eqo.us (Or.inl rfl))
            have hrow : rowR f S5 (15 + 2 + c) R := by
              have h9 : rowR f S4 (15 + 2 + c) R := row_cp hf (b4.eqo j3 (fun (h : 95 + 1 + (4 - 4) = 89) => by omega))
              exact h9
            have hst : stR S5 15 (f, c + 1, fun i => if i = c then R else W i) := by
              obtain ⟨x1, x2, x3, x4, x5, x6⟩ := hC3.2.2.2.1
              refine ⟨hf, ?_, ?_, ?_, by show c + 1 ≤ 6; omega, fun i hi => ?_⟩
              · show (us S4 15 2 _).1 15 0 = _; rw [us_at, if_neg (by decide)]; exact x2
              · show (us S4 15 2 _).1 15 1 = _; rw [us_at, if_neg (by decide)]; exact x3
              · show (us S4 15 2 _).1 15 2 = _; rw [us_at, if_pos rfl]
              · have hi' : i < c + 1 := hi
                show rowR f S5 (15 + 2 + i) (if i = c then R else W i)
                by_cases e : i = c
                · rw [if_pos e, e]; exact hrow
                · rw [if_neg e]
                  exact (x6 i (show i < c by omega)).eqo e45 (fun (h : 15 + 2 + i = 15 ∨ 15 + 2 + i = 15 + 2 + c) => by omega)
            have hC5 : RC b n f (c + 1) (fun i => if i = c then R else W i) S5 := ⟨hC3.1, hC3.2.1, hC3.2.2.1.eqo e45 (fun r _ hr (h : r = 15 ∨ r = 15 + 2 + c) => by omega), hst, hC3.2.2.2.2.eqo e45 (fun r hr (h : r = 15 ∨ r = 15 + 2 + c) => by omega)⟩
            have hp5 : TP b n S5 (nx b n p9) := j2.eqo e45 (fun (h : 89 = 15 ∨ 89 = 15 + 2 + c) => by omega)
            rw [if_pos c9, if_pos (by rw [c9]; rfl), q_bs, ob_89, q_cv, j1, q_cal, q_vn, z_br1, q_cal, q_vi, if_neg (by decide), gr_94_5, q_bs, show (0 : Int32) = nI 0 from rfl, ar_95 (by decide), q_bs, gr_94_4, q_bs, gr_st hs, q_bs, q_bs, gi_st hs (by decide), q_bs, hcn3, ar_mx hs c6, q_bs, show nI 0 = (0 : Int32) from rfl, q_cp (ql_row (by decide) (by decide)) (ql_st hs c6), q_bs, gr_94_4, q_bs, gi_st hs (by decide), q_bs]
            rw [show (uA S3 (15 + 2 + c) (fun j => if j < 64 then S3.2.1 (95 + 1 + 0) j else S3.2.1 (15 + 2 + c) j)).1 15 2 = nI c from hcn3, nI_1, pi_st hs (by decide), q_bs]
            refine g_tr ((j3.mo (fun x (hx : x = 89) => by omega)).tr (e45.mo (fun x (hx : x = 15 ∨ x = 15 + 2 + c) => by omega))) ?_ (ih (c + 1) _ K S5 _ (by omega) (by omega) hC5 hp5)
            rw [(e45.1 94 (by omega)).1, (j3.1 94 (by decide)).1]
          · rw [if_neg c9, if_neg (by rw [qlit, nI_eq (by omega) (by decide)]; exact c9), ob_94, q_cv, r_refuse b3, q_cal, q_vi, z_br0, q_cal, q_vi, if_pos rfl, z_br0]
            exact g_no (k := 1) b3 rfl
      · rw [if_neg c6, if_neg (by rw [qlit, nI_ltI (by omega) (by decide)]; exact c6), ob_94, q_cv, r_refuse hp, q_cal, q_vi, z_br0]
        exact g_no (k := 3) hp rfl
    · rw [if_neg c3, if_neg (by rw [qlit, nI_eq (by omega) (by decide)]; exact c3), ob_94, q_cv, r_refuse hp, q_cal, q_vi, z_br0]
      exact g_no (k := 1) hp rfl
end QTJ
