/-! the reference's orbits -/
def orL (f c : Nat) (W : Nat → Nat → Nat) (S : SS) (L : Nat → Nat) : Prop := ∀ x, x < qF f → S.2.1 269 x = nI (L x) ∧ L x ≤ x ∧ Rch (qF f) c W x (L x)
def orF (q : Nat) (L L' : Nat → Nat) (F : Int32) (E : Prop) : Prop := (F = 0 ∧ (∀ z, z < q → L' z = L z) ∧ E) ∨ (F = 1 ∧ fb_sm L' q < fb_sm L q)
theorem sm_strict {g h : Nat → Nat} {q x : Nat} (hx : x < q) (hle : ∀ z, z < q → h z ≤ g z) (hlt : h x < g x) : fb_sm h q < fb_sm g q := by
  have e1 := fb_sm_upd g (h x) (i := x) (n := q) hx
  have e2 : fb_sm h q ≤ fb_sm (fun k => if k = x then h x else g k) q := fb_sm_le (fun k hk => by
    by_cases e : k = x
    · rw [if_pos e, e]; exact Nat.le_refl _
    · rw [if_neg e]; exact hle k hk)
  omega
section QMJ
variable {A : AS} {S : SS} {f c : Nat} {W : Nat → Nat → Nat}
theorem m_orb56 (hf : f < nF) (hz : S.1 119 15 = nI (qF f)) {i : Nat} (hi : i < 6) (hic : i < c) (hr : nowR f S i (W i)) (hp : pmB (qF f) (W i) = true) (hW : ∀ i, i < c → ∀ x, x < qF f → W i x < qF f) (L : Nat → Nat) (K25 : Nat → Int32 → AH → RR) (K33 : Nat → Int32 → Int32 → AH → RR) (F : Int32) {L0 : Nat → Nat} (h0 : orL f c W S L0) (hF : orF (qF f) L L0 F True) :
    ∃ S' F' L', fX7_laysOrbits_56 K25 K33 FU 119 F (nI i) 0 (qH A S) = K33 119 F' (nI (i + 1)) (qH A S') ∧ eqo (fun x => x = 269) S S' ∧ orL f c W S' L' ∧ orF (qF f) L L' F' (F = 0 ∧ ∀ z, z < qF f → L z = L (W i z)) := by
  have hq := qz hf
  have key := loopP (fun k x (s : SS × Int32) => fX7_laysOrbits_56 K25 K33 k 119 s.2 (nI i) (nI x) (qH A s.1)) (qF f) (fun x s => eqo (fun x => x = 269) S s.1 ∧ ∃ L', orL f c W s.1 L' ∧ orF (qF f) L L' s.2 (F = 0 ∧ ∀ z, z < x → L z = L (W i z))) (fun o => ∃ S' F' L', o = K33 119 F' (nI (i + 1)) (qH A S') ∧ eqo (fun x => x = 269) S S' ∧ orL f c W S' L' ∧ orF (qF f) L L' F' (F = 0 ∧ ∀ z, z < qF f → L z = L (W i z))) ?_ ?_ (qF f) 0 FU (S, F) (by omega) (by unfold FU; omega) ⟨eqo.rf, L0, h0, ?_⟩
  · exact key
  · rintro k x ⟨T, B⟩ hx ⟨g1, L', g2, g3⟩
    have hy : W i x < qF f := (hr x hx).2
    have hr2 : nowR f T i (W i) := hr.eqo g1 (by decide)
    have hz2 : T.1 119 15 = nI (qF f) := by rw [(g1.1 119 (by decide)).1]; exact hz
    obtain ⟨x1', x2, x3⟩ := g2 x hx
    obtain ⟨y1', y2, y3⟩ := g2 (W i x) hy
    have x1 : T.2.1 269 x = nI (L' x) := x1'
    have y1 : T.2.1 269 (W i x) = nI (L' (W i x)) := y1'
    have hxy : Rch (qF f) c W x (W i x) := Rch.one hic hp
    let l := if L' (W i x) ≤ L' x then L' (W i x) else L' x
    have hl1 : l ≤ L' x := by show (if _ then _ else _) ≤ _; split <;> omega
    have hl2 : l ≤ L' (W i x) := by show (if _ then _ else _) ≤ _; split <;> omega
    have hlx : Rch (qF f) c W x l := by show Rch _ _ _ x (if _ then _ else _); split; exact hxy.tr y3; exact x3
    have hly : Rch (qF f) c W (W i x) l := (Rch.sy hW hx hxy).tr hlx
    let L2 : Nat → Nat := fun z => if z = W i x ∨ z = x then l else L' z
    let T2 : SS := ua (ua T 269 x (nI l)) 269 (W i x) (nI l)
    have hle : ∀ z, L2 z ≤ L' z := by
      intro z
      show (if z = W i x ∨ z = x then l else L' z) ≤ L' z
      by_cases e : z = W i x ∨ z = x
      · rw [if_pos e]
        rcases e with e | e
        · rw [e]; exact hl2
        · rw [e]; exact hl1
      · rw [if_neg e]; exact Nat.le_refl _
    have o2 : orL f c W T2 L2 := by
      intro z hz9
      show (ua (ua T 269 x (nI l)) 269 (W i x) (nI l)).2.1 269 z = nI (if z = W i x ∨ z = x then l else L' z) ∧ _
      refine ⟨?_, Nat.le_trans (hle z) (g2 z hz9).2.1, ?_⟩
      · rw [ua_at, ua_at]
        by_cases e1 : z = W i x
        · rw [if_pos e1, if_pos (Or.inl e1)]
        · rw [if_neg e1]
          by_cases e2 : z = x
          · rw [if_pos e2, if_pos (Or.inr e2)]
          · rw [if_neg e2, if_neg (by omega)]; exact (g2 z hz9).1
      · show Rch _ _ _ z (if z = W i x ∨ z = x then l else L' z)
        by_cases e : z = W i x ∨ z = x
        · rw [if_pos e]
          rcases e with e | e
          · rw [e]; exact hly
          · rw [e]; exact hlx
        · rw [if_neg e]; exact (g2 z hz9).2.2
    have e2 : eqo (fun x => x = 269) S T2 := g1.tr ((eqo.ua (X := fun x => x = 269) rfl).tr (eqo.ua (X := fun x => x = 269) rfl))
    have less : fX7_less (nI (L' x)) (nI (L' (W i x))) (qH A T) = some (.inl (some (.int (nI l))), qH A T) := by
      unfold fX7_less
      show _ = some (Sum.inl (some (Value.int (nI (if L' (W i x) ≤ L' x then L' (W i x) else L' x)))), qH A T)
      by_cases e : L' (W i x) ≤ L' x
      · rw [if_pos (by rw [nI_leI (by omega) (by omega)]; exact e), if_pos e]
      · rw [if_neg (by rw [nI_leI (by omega) (by omega)]; exact e), if_neg e]
    have last : ∀ s0 : Int32, fX7_laysOrbits_115 K25 K33 (fun p0 p1 p2 p3 h => fX7_laysOrbits_56 K25 K33 k p0 p1 p2 p3 h) 119 (nI i) (nI x) (nI (W i x)) (nI l) s0 (qH A T) = fX7_laysOrbits_56 K25 K33 k 119 s0 (nI i) (nI (x + 1)) (qH A T2) := by
      intro s0
      unfold fX7_laysOrbits_115
      rw [gr_119_27, q_bs, q_si ql_269 (by omega), q_bs, gr_119_27, q_bs, q_si ql_269 (by omega), q_bs, nI_1]
    have step : fX7_laysOrbits_56 K25 K33 (k + 1) 119 B (nI i) (nI x) (qH A T) = fX7_laysOrbits_56 K25 K33 k 119 (if B = 0 then (if L' x = L' (W i x) then 0 else 1) else 1) (nI i) (nI (x + 1)) (qH A T2) := by
      rw [fX7_laysOrbits_56]
      simp (disch := omega) only [gi_119_15, q_bs, hz2, nI_leI, if_neg (show ¬ qF f ≤ x by omega), ob_119, q_cv, m_at hf hi hr2 hx, q_cal, q_vi, gr_119_27, ai_269, x1, y1, less]
      unfold fX7_laysOrbits_110
      by_cases b0 : B = 0
      · rw [if_pos b0, if_pos b0]
        by_cases e : L' x = L' (W i x)
        · rw [if_pos (by rw [e]), if_pos e, last]
        · rw [if_neg (by rw [nI_eq (by omega) (by omega)]; exact e), if_neg e, last]
      · rw [if_neg b0, if_neg b0, last]
    refine ⟨(T2, if B = 0 then (if L' x = L' (W i x) then 0 else 1) else 1), ⟨e2, L2, o2, ?_⟩, step⟩
    rcases g3 with ⟨b0, b1, b2, b3⟩ | ⟨b0, b1⟩
    · have b0' : B = 0 := b0
      show orF (qF f) L L2 (if B = 0 then _ else _) _
      rw [if_pos b0']
      by_cases e : L' x = L' (W i x)
      · rw [if_pos e]
        refine Or.inl ⟨rfl, fun z hz9 => ?_, b2, fun z hz9 => ?_⟩
        · rw [← b1 z hz9]
          have el : l = L' x := by show (if _ then _ else _) = _; split <;> omega
          show (if z = W i x ∨ z = x then l else L' z) = L' z
          by_cases e9 : z = W i x ∨ z = x
          · rw [if_pos e9, el]
            rcases e9 with e9 | e9
            · rw [e9]; exact e
            · rw [e9]
          · rw [if_neg e9]
        · by_cases ez : z = x
          · subst ez; rw [← b1 z hx, ← b1 _ hy]; exact e
          · exact b3 z (by omega)
      · rw [if_neg e]
        refine Or.inr ⟨rfl, ?_⟩
        rw [← fb_sm_cong b1]
        by_cases e9 : L' (W i x) ≤ L' x
        · refine sm_strict hx (fun z _ => hle z) ?_
          show (if x = W i x ∨ x = x then l else L' x) < L' x
          rw [if_pos (Or.inr rfl)]
          show (if L' (W i x) ≤ L' x then L' (W i x) else L' x) < L' x
          rw [if_pos e9]; omega
        · refine sm_strict hy (fun z _ => hle z) ?_
          show (if W i x = W i x ∨ W i x = x then l else L' (W i x)) < L' (W i x)
          rw [if_pos (Or.inl rfl)]
          show (if L' (W i x) ≤ L' x then L' (W i x) else L' x) < L' (W i x)
          rw [if_neg e9]; omega
    · have b0' : B = 1 := b0
      show orF (qF f) L L2 (if B = 0 then _ else _) _
      rw [if_neg (by rw [b0']; decide)]
      exact Or.inr ⟨rfl, Nat.lt_of_le_of_lt (fb_sm_le (fun z _ => hle z)) b1⟩
  · rintro k ⟨T, B⟩ ⟨g1, L', g2, g3⟩
    have hz2 : T.1 119 15 = nI (qF f) := by rw [(g1.1 119 (by decide)).1]; exact hz
    refine ⟨T, B, L', ?_, g1, g2, g3⟩
    show fX7_laysOrbits_56 K25 K33 (k + 1) 119 B (nI i) (nI (qF f)) (qH A T) = _
    rw [fX7_laysOrbits_56, gi_119_15, q_bs, hz2, if_pos (by rw [nI_leI (by omega) (by omega)]; exact Nat.le_refl _), nI_1]
  · rcases hF with ⟨b0, b1, -⟩ | hF
    · exact Or.inl ⟨b0, b1, b0, fun z hz9 => by omega⟩
    · exact Or.inr hF
theorem m_orb33 (hf : f < nF) (hz : S.1 119 15 = nI (qF f)) (hc6 : c ≤ 6) (hc : S.2.1 122 2 = nI c) (hr : ∀ i, i < c → nowR f S i (W i)) (L : Nat → Nat) (K25 : Nat → Int32 → AH → RR) (h0 : orL f c W S L) :
    ∃ S' F' L', fX7_laysOrbits_33 K25 FU 119 0 0 (qH A S) = K25 119 F' (qH A S') ∧ eqo (fun x => x = 269) S S' ∧ orL f c W S' L' ∧ orF (qF f) L L' F' (∀ i, i < c → pmB (qF f) (W i) = true → ∀ z, z < qF f → L z = L (W i z)) := by
  have hq := qz hf
  have hW : ∀ i, i < c → ∀ x, x < qF f → W i x < qF f := fun i hi x hx => (hr i hi x hx).2
  have key := loopP (fun k i (s : SS × Int32) => fX7_laysOrbits_33 K25 k 119 s.2 (nI i) (qH A s.1)) c (fun n s => eqo (fun x => x = 269) S s.1 ∧ ∃ L', orL f c W s.1 L' ∧ orF (qF f) L L' s.2 (∀ i, i < n → pmB (qF f) (W i) = true → ∀ z, z < qF f → L z = L (W i z))) (fun o => ∃ S' F' L', o = K25 119 F' (qH A S') ∧ eqo (fun x => x = 269) S S' ∧ orL f c W S' L' ∧ orF (qF f) L L' F' (∀ i, i < c → pmB (qF f) (W i) = true → ∀ z, z < qF f → L z = L (W i z))) ?_ ?_ c 0 FU (S, 0) (by omega) (by unfold FU; omega) ⟨eqo.rf, L, h0, Or.inl ⟨rfl, fun _ _ => rfl, fun i hi => by omega⟩⟩
  · exact key
  · rintro k i ⟨T, B⟩ hi ⟨g1, L', g2, g3⟩
    have hr2 : nowR f T i (W i) := (hr i hi).eqo g1 (by decide)
    have hz2 : T.1 119 15 = nI (qF f) := by rw [(g1.1 119 (by decide)).1]; exact hz
    have hc2 : T.2.1 122 2 = nI c := by rw [(g1.1 122 (by decide)).2]; exact hc
    have base : fX7_laysOrbits_33 K25 (k + 1) 119 B (nI i) (qH A T) = if pmB (qF f) (W i) = true then fX7_laysOrbits_56 K25 (fun p0 p1 p2 h => fX7_laysOrbits_33 K25 k p0 p1 p2 h) FU 119 B (nI i) 0 (qH A T) else fX7_laysOrbits_33 K25 k 119 B (nI (i + 1)) (qH A T) := by
      rw [fX7_laysOrbits_33, gr_119_9, q_bs, show (2 : Int32) = nI 2 from rfl, q_ai ql_122 (by decide), q_bs, hc2, if_neg (by rw [nI_leI (by omega) (by omega)]; omega), ob_119, q_cv, m_perm hf hz2 (by omega) hr2, q_cal, q_vi, nI_1]
      by_cases e : pmB (qF f) (W i) = true
      · rw [if_neg (by rw [q_pm0]; exact fun h => h e), if_pos e]
      · rw [if_pos (by rw [q_pm0]; exact e), if_neg e]
    by_cases hp : pmB (qF f) (W i) = true
    · obtain ⟨S', F', L2, a1, a2, a3, a4⟩ := m_orb56 (A := A) (S := T) hf hz2 (by omega) hi hr2 hp hW L K25 (fun p0 p1 p2 h => fX7_laysOrbits_33 K25 k p0 p1 p2 h) B g2 (by
        rcases g3 with ⟨b0, b1, -⟩ | g3
        · exact Or.inl ⟨b0, b1, trivial⟩
        · exact Or.inr g3)
      refine ⟨(S', F'), ⟨g1.tr a2, L2, a3, ?_⟩, ?_⟩
      · rcases a4 with ⟨b0, b1, b2, b3⟩ | a4
        · refine Or.inl ⟨b0, b1, fun j hj hpj z hz9 => ?_⟩
          rcases g3 with ⟨d0, d1, d2⟩ | ⟨d0, -⟩
          · by_cases e : j = i
            · subst e; exact b3 z hz9
            · exact d2 j (by omega) hpj z hz9
          · have d0' : B = 1 := d0
            rw [d0'] at b2; exact absurd b2 (by decide)
        · exact Or.inr a4
      · show fX7_laysOrbits_33 K25 (k + 1) 119 B (nI i) (qH A T) = _
        rw [base, if_pos hp]
        exact a1
    · refine ⟨(T, B), ⟨g1, L', g2, ?_⟩, ?_⟩
      · rcases g3 with ⟨d0, d1, d2⟩ | g3
        · refine Or.inl ⟨d0, d1, fun j hj hpj z hz9 => ?_⟩
          by_cases e : j = i
          · subst e; exact absurd hpj hp
          · exact d2 j (by omega) hpj z hz9
        · exact Or.inr g3
      · show fX7_laysOrbits_33 K25 (k + 1) 119 B (nI i) (qH A T) = _
        rw [base, if_neg hp]
  · rintro k ⟨T, B⟩ ⟨g1, L', g2, g3⟩
    have hc2 : T.2.1 122 2 = nI c := by rw [(g1.1 122 (by decide)).2]; exact hc
    refine ⟨T, B, L', ?_, g1, g2, g3⟩
    show fX7_laysOrbits_33 K25 (k + 1) 119 B (nI c) (qH A T) = _
    rw [fX7_laysOrbits_33, gr_119_9, q_bs, show (2 : Int32) = nI 2 from rfl, q_ai ql_122 (by decide), q_bs, hc2, if_pos (by rw [nI_leI (by omega) (by omega)]; exact Nat.le_refl _)]
theorem m_orb25 (hf : f < nF) (hc6 : c ≤ 6) : ∀ s K S L, fb_sm L (qF f) ≤ s → s + 1 < K → S.1 119 15 = nI (qF f) → S.2.1 122 2 = nI c → (∀ i, i < c → nowR f S i (W i)) → orL f c W S L →
    ∃ S' L', fX7_laysOrbits_25 K 119 1 (qH A S) = some (.inl none, qH A S') ∧ eqo (fun x => x = 269) S S' ∧ orL f c W S' L' ∧ ∀ i, i < c → pmB (qF f) (W i) = true → ∀ z, z < qF f → L' z = L' (W i z) := by
  have hq := qz hf
  intro s
  induction s with
  | zero =>
    intro K S L h1 h2 hz hc hr h0
    obtain ⟨K, rfl⟩ : ∃ k', K = k' + 2 := ⟨K - 2, by omega⟩
    obtain ⟨S', F', L', a1, a2, a3, a4⟩ := m_orb33 (A := A) hf hz hc6 hc hr L (fun p0 p1 h => fX7_laysOrbits_25 (K + 1) p0 p1 h) h0
    rcases a4 with ⟨b0, b1, b2⟩ | ⟨-, b1⟩
    · refine ⟨S', L', ?_, a2, a3, fun i hi hp z hz9 => ?_⟩
      · rw [fX7_laysOrbits_25, if_neg (by decide), a1]
        subst b0
        show fX7_laysOrbits_25 (K + 1) 119 0 (qH A S') = _
        rw [fX7_laysOrbits_25, if_pos rfl]
      · rw [b1 z hz9, b1 _ (hr i hi z hz9).2]; exact b2 i hi hp z hz9
    · omega
  | succ s ih =>
    intro K S L h1 h2 hz hc hr h0
    obtain ⟨K, rfl⟩ : ∃ k', K = k' + 2 := ⟨K - 2, by omega⟩
    obtain ⟨S', F', L', a1, a2, a3, a4⟩ := m_orb33 (A := A) hf hz hc6 hc hr L (fun p0 p1 h => fX7_laysOrbits_25 (K + 1) p0 p1 h) h0
    rcases a4 with ⟨b0, b1, b2⟩ | ⟨b0, b1⟩
    · refine ⟨S', L', ?_, a2, a3, fun i hi hp z hz9 => ?_⟩
      · rw [fX7_laysOrbits_25, if_neg (by decide), a1]
        subst b0
        show fX7_laysOrbits_25 (K + 1) 119 0 (qH A S') = _
        rw [fX7_laysOrbits_25, if_pos rfl]
      · rw [b1 z hz9, b1 _ (hr i hi z hz9).2]; exact b2 i hi hp z hz9
    · obtain ⟨S2, L2, c1, c2, c3, c4⟩ := ih (K + 1) S' L' (by omega) (by omega) (by rw [(a2.1 119 (by decide)).1]; exact hz) (by rw [(a2.1 122 (by decide)).2]; exact hc) (fun i hi => (hr i hi).eqo a2 (by decide)) a3
      refine ⟨S2, L2, ?_, a2.tr c2, c3, c4⟩
      rw [fX7_laysOrbits_25, if_neg (by decide), a1]
      subst b0
      exact c1
theorem m_orbits (hf : f < nF) (hz : S.1 119 15 = nI (qF f)) (hc6 : c ≤ 6) (hc : S.2.1 122 2 = nI c) (hr : ∀ i, i < c → nowR f S i (W i)) :
    ∃ S' L, fX7_laysOrbits 119 (qH A S) = some (.inl none, qH A S') ∧ eqo (fun x => x = 269) S S' ∧ orL f c W S' L ∧ ∀ x y, x < qF f → (Rch (qF f) c W x y ↔ (y < qF f ∧ L x = L y)) := by
  have hq := qz hf
  have hW : ∀ i, i < c → ∀ x, x < qF f → W i x < qF f := fun i hi x hx => (hr i hi x hx).2
  let S1 := uA S 269 (fa_fill (fun x => nI x) (S.2.1 269) (qF f))
  have e1 : eqo (fun x => x = 269) S S1 := eqo.uA (X := fun x => x = 269) rfl
  have h0 : orL f c W S1 (fun x => x) := fun x hx => ⟨by show (uA _ _ _).2.1 269 x = _; rw [uA_at, fa_fill_in hx], Nat.le_refl _, Rch.rf⟩
  have hsm : fb_sm (fun x => x) (qF f) ≤ 64 * 64 := by
    have h1 := fb_sm_bound (f := fun x => x) (c := 64) (n := qF f) (fun k hk => by show k ≤ 64; omega)
    have h2 : qF f * 64 ≤ 64 * 64 := Nat.mul_le_mul_right _ (by omega)
    omega
  obtain ⟨S', L, a1, a2, a3, a4⟩ := m_orb25 (A := A) (W := W) hf hc6 (64 * 64) FU S1 (fun x => x) hsm (by unfold FU; omega) (by rw [(e1.1 119 (by decide)).1]; exact hz) (by rw [(e1.1 122 (by decide)).2]; exact hc) (fun i hi => (hr i hi).eqo e1 (by decide)) h0
  refine ⟨S', L, ?_, e1.tr a2, a3, fun x y hx => ⟨fun h => ⟨Rch.lt hW hx h, ?_⟩, fun ⟨hy, h⟩ => ?_⟩⟩
  · unfold fX7_laysOrbits
    have h := loopF0 (fun k x s => fX7_laysOrbits_2 k 119 (nI x) (qH A s)) (qF f) (fun x => uA S 269 (fa_fill (fun x => nI x) (S.2.1 269) x)) (some (.inl none, qH A S')) (by omega) ?_ ?_
    · rw [fa_fill_0, uA_self] at h
      exact h
    · intro k x hx
      show fX7_laysOrbits_2 (k + 1) 119 (nI x) (qH A _) = _
      rw [fX7_laysOrbits_2, gi_119_15, q_bs, uA_s, hz, if_neg (by rw [nI_leI (by omega) (by omega)]; omega), gr_119_27, q_bs, q_si ql_269 (by omega), q_bs, uaA, nI_1]
      rw [show upd (fa_fill (fun x => nI x) (S.2.1 269) x) x (nI x) = fa_fill (fun x => nI x) (S.2.1 269) (x + 1) from fa_fill_succ (fun x => nI x) (S.2.1 269) x]
    · intro k
      show fX7_laysOrbits_2 (k + 1) 119 (nI (qF f)) (qH A _) = _
      rw [fX7_laysOrbits_2, gi_119_15, q_bs, uA_s, hz, if_pos (by rw [nI_leI (by omega) (by omega)]; exact Nat.le_refl _)]
      exact a1
  · obtain ⟨l, l1, l2⟩ := h
    have go : ∀ l x, x < qF f → wayO (qF f) c W l → L x = L (goL W l x) := by
      intro l
      induction l with
      | nil => intro x _ _; rfl
      | cons i l ih =>
        intro x hx hw
        obtain ⟨w1, w2⟩ := hw i List.mem_cons_self
        rw [a4 i w1 w2 x hx]
        exact ih (W i x) (hW i w1 x hx) (fun j hj => hw j (List.mem_cons_of_mem _ hj))
    rw [← l2]
    exact go l x hx l1
  · have h1 := (a3 x hx).2.2
    have h2 := (a3 y hy).2.2
    rw [h] at h1
    exact h1.tr (Rch.sy hW hy h2)
theorem m_orbit36 (hf : f < nF) (hz : S.1 119 15 = nI (qF f)) {L : Nat → Nat} {x : Nat} (hx : x < qF f) (hL : orL f c W S L) : fX7_orbit_36 FU 119 (nI x) 0 0 (qH A S) = some (.inl (some (.int (nI (fb_ct (fun y => L y == L x) (qF f))))), qH A S) := by
  have hq := qz hf
  have h := loopF0 (fun k y n => fX7_orbit_36 k 119 (nI x) (nI n) (nI y) (qH A S)) (qF f) (fun y => fb_ct (fun y => L y == L x) y) (some (.inl (some (.int (nI (fb_ct (fun y => L y == L x) (qF f))))), qH A S)) (by omega) ?_ ?_
  · exact h
  · intro k y hy
    obtain ⟨y1, y2, -⟩ := hL y hy
    obtain ⟨x1, x2, -⟩ := hL x hx
    show fX7_orbit_36 (k + 1) 119 (nI x) (nI (fb_ct (fun y => L y == L x) y)) (nI y) (qH A S) = fX7_orbit_36 k 119 (nI x) (nI (fb_ct (fun y => L y == L x) (y + 1))) (nI (y + 1)) (qH A S)
    rw [fX7_orbit_36, gi_119_15, q_bs, hz, if_neg (by rw [nI_leI (by omega) (by omega)]; omega), gr_119_27, q_bs, q_ai ql_269 (by omega), q_bs, q_bs, q_ai ql_269 (by omega), q_bs, y1, x1, nI_1, nI_1, fb_ct_succ]
    by_cases e : L y = L x
    · rw [if_pos (by rw [e]), if_pos (by simp [e])]
    · rw [if_neg (by rw [nI_eq (by omega) (by omega)]; exact e), if_neg (by simp [e]), show (0 : Int32) = nI 0 from rfl, nI_add]
  · intro k
    show fX7_orbit_36 (k + 1) 119 (nI x) _ (nI (qF f)) (qH A S) = _
    rw [fX7_orbit_36, gi_119_15, q_bs, hz, if_pos (by rw [nI_leI (by omega) (by omega)]; exact Nat.le_refl _)]
theorem m_orbits12 (hf : f < nF) (hz : S.1 119 15 = nI (qF f)) {L : Nat → Nat} (hL : orL f c W S L) : fX7_orbits_12 FU 119 0 0 (qH A S) = some (.inl (some (.int (nI (fb_ct (fun y => L y == y) (qF f))))), qH A S) := by
  have hq := qz hf
  have h := loopF0 (fun k y n => fX7_orbits_12 k 119 (nI n) (nI y) (qH A S)) (qF f) (fun y => fb_ct (fun y => L y == y) y) (some (.inl (some (.int (nI (fb_ct (fun y => L y == y) (qF f))))), qH A S)) (by omega) ?_ ?_
  · exact h
  · intro k y hy
    obtain ⟨y1, y2, -⟩ := hL y hy
    show fX7_orbits_12 (k + 1) 119 (nI (fb_ct (fun y => L y == y) y)) (nI y) (qH A S) = fX7_orbits_12 k 119 (nI (fb_ct (fun y => L y == y) (y + 1))) (nI (y + 1)) (qH A S)
    rw [fX7_orbits_12, gi_119_15, q_bs, hz, if_neg (by rw [nI_leI (by omega) (by omega)]; omega), gr_119_27, q_bs, q_ai ql_269 (by omega), q_bs, y1, nI_1, nI_1, fb_ct_succ]
    by_cases e : L y = y
    · rw [if_pos (by rw [e]), if_pos (by simp [e])]
    · rw [if_neg (by rw [nI_eq (by omega) (by omega)]; exact e), if_neg (by simp [e]), show (0 : Int32) = nI 0 from rfl, nI_add]
  · intro k
    show fX7_orbits_12 (k + 1) 119 _ (nI (qF f)) (qH A S) = _
    rw [fX7_orbits_12, gi_119_15, q_bs, hz, if_pos (by rw [nI_leI (by omega) (by omega)]; exact Nat.le_refl _)]
end QMJ
