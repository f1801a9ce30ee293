/-! the reference's changes -/
section QMR
variable {A : AS} {S : SS} {G : GS}
theorem ql_past (k : Nat) (hk : k < 8) : qL A (124 + 1 + k) 387 := by
  refine ql_387 (by omega) ?_ ?_
  · revert k; decide
  · revert k; decide
theorem mr_cp {a b : Nat} {σ : PS} (h : mrR S a σ) : mrR (uA S b (fa_fill (S.2.1 a) (S.2.1 b) 387)) b σ := by
  obtain ⟨h1, h2, h3, h4, h5, h6⟩ := h
  have hq := qz h1
  have e : ∀ j, j < 387 → (uA S b (fa_fill (S.2.1 a) (S.2.1 b) 387)).2.1 b j = S.2.1 a j := fun j hj => by rw [uA_at, fa_fill_in hj]
  exact ⟨h1, by rw [e _ (by decide)]; exact h2, by rw [e _ (by decide)]; exact h3, by rw [e _ (by decide)]; exact h4, h5, fun i hi x hx => by rw [e _ (by omega)]; exact h6 i hi x hx⟩
/-- all of it but the rows of the past and their number -/
theorem mi_past {G : GS} {S S' : SS} (h : MI G S) {n : Nat} {H : Nat → PS} (hX : eqo (fun x => x = 119 ∨ (125 ≤ x ∧ x ≤ 132)) S S') (hs : ∀ k, k ≠ 12 → S'.1 119 k = S.1 119 k) (hn : n ≤ 8) (h12 : S'.1 119 12 = nI n) (hH : ∀ k, k < n → mrR S' (124 + 1 + (n - 1 - k)) (H k)) : MI (G.1, (n, H), G.2.2) S' := by
  obtain ⟨h1, h2, ⟨h3, h4, h5⟩, ⟨h6, h7, h8⟩, h9, h10⟩ := h
  have er : ∀ b, (119 < b ∧ b < 125) ∨ (132 < b ∧ b < 265) → S'.2.1 b = S.2.1 b := fun b hb => (hX.1 b (by omega)).2
  refine ⟨?_, mr_ro h2 (er _ (by omega)), ⟨hn, h12, hH⟩, ⟨h6, by rw [hs _ (by decide)]; exact h7, fun i hi => by rw [er _ (by omega)]; exact h8 i hi⟩, fun j hj => by rw [er _ (by omega)]; exact h9 j hj, by rw [hs _ (by decide)]; exact h10⟩
  rcases h1 with ⟨g, hg, hT⟩ | ⟨u1, u2⟩
  · exact Or.inl ⟨g, hg, tm_gen hg hT (fun b hb => er b (by omega)) (fun k hk => hs k (by omega))⟩
  · exact Or.inr ⟨by rw [hs _ (by decide)]; exact u1, by rw [hs _ (by decide)]; exact u2⟩
theorem m_rem50 {n : Nat} {H : Nat → PS} (hn : n < 8) (hb : S.1 119 12 = nI n) (h2 : mrR S 122 G.1) (hH : ∀ k, k < n → mrR S (124 + 1 + (n - 1 - k)) (H k)) :
    ∃ S', fX7_remembers_50 119 (qH A S) = some (.inl none, qH A S') ∧ eqo (fun x => x = 119 ∨ (125 ≤ x ∧ x ≤ 132)) S S' ∧ (∀ k, k ≠ 12 → S'.1 119 k = S.1 119 k) ∧ S'.1 119 12 = nI (n + 1) ∧ ∀ k, k < n + 1 → mrR S' (124 + 1 + (n + 1 - 1 - k)) (if k = 0 then G.1 else H (k - 1)) := by
  refine ⟨us (uA S (124 + 1 + n) (fa_fill (S.2.1 122) (S.2.1 (124 + 1 + n)) 387)) 119 12 (nI (n + 1)), ?_, (eqo.uA (by omega)).tr (eqo.us (Or.inl rfl)), fun k hk => by rw [us_at, if_neg hk]; rfl, by rw [us_at, if_pos rfl], fun k hk => ?_⟩
  · unfold fX7_remembers_50
    have hb2 : (uA S (124 + 1 + n) (fa_fill (S.2.1 122) (S.2.1 (124 + 1 + n)) 387)).1 119 12 = nI n := hb
    rw [gr_119_9, q_bs, gr_119_11, q_bs, gi_119_12, q_bs, hb, ar_124 hn, q_bs, m_copies ql_122 (ql_past n hn) (by omega), q_cal, q_vn, gi_119_12, q_bs, hb2, nI_1, pi_119_12, q_bs]
  · by_cases e : k = 0
    · rw [if_pos e, e]
      have := mr_cp (b := 124 + 1 + n) h2
      exact mr_ro this rfl
    · rw [if_neg e]
      have h9 := hH (k - 1) (by omega)
      rw [show n - 1 - (k - 1) = n + 1 - 1 - k by omega] at h9
      exact mr_ro h9 (uA_ne (by omega))
theorem m_remI (h : MI G S) : ∃ S', fX7_remembers 119 (qH A S) = some (.inl none, qH A S') ∧ (MI (gH G) S' ∧ ∀ k, k ≠ 12 → S'.1 119 k = S.1 119 k) ∧ eqo (fun x => x = 119 ∨ (125 ≤ x ∧ x ≤ 132)) S S' := by
  have hI := h
  obtain ⟨h1, h2, ⟨h3, h4, h5⟩, ⟨h6, h7, h8⟩, h9, h10⟩ := h
  have fin : ∀ S', eqo (fun x => x = 119 ∨ (125 ≤ x ∧ x ≤ 132)) S S' → (∀ k, k ≠ 12 → S'.1 119 k = S.1 119 k) → S'.1 119 12 = nI (if 8 ≤ G.2.1.1 then 8 else G.2.1.1 + 1) → (∀ k, k < (if 8 ≤ G.2.1.1 then 8 else G.2.1.1 + 1) → mrR S' (124 + 1 + ((if 8 ≤ G.2.1.1 then 8 else G.2.1.1 + 1) - 1 - k)) (if k = 0 then G.1 else G.2.1.2 (k - 1))) → (MI (gH G) S' ∧ ∀ k, k ≠ 12 → S'.1 119 k = S.1 119 k) := by
    intro S' e1 e2 e3 e4
    exact ⟨mi_past hI e1 e2 (by split <;> omega) e3 e4, e2⟩
  unfold fX7_remembers
  rw [gi_119_12, q_bs, h4]
  by_cases c : G.2.1.1 = 8
  · rw [if_pos (by rw [c]; rfl)]
    rw [c] at h4 h5
    have key := loopP (fun k i s => fX7_remembers_11 k 119 (nI (i + 1)) (qH A s)) 7 (fun i s => eqo (fun x => 125 ≤ x ∧ x ≤ 132) S s ∧ (∀ r, r < i → s.2.1 (124 + 1 + r) = fa_fill (S.2.1 (124 + 1 + (r + 1))) (S.2.1 (124 + 1 + r)) 387) ∧ ∀ r, i ≤ r → s.2.1 (124 + 1 + r) = S.2.1 (124 + 1 + r)) (fun o => ∃ T, eqo (fun x => 125 ≤ x ∧ x ≤ 132) S T ∧ (∀ r, r < 7 → T.2.1 (124 + 1 + r) = fa_fill (S.2.1 (124 + 1 + (r + 1))) (S.2.1 (124 + 1 + r)) 387) ∧ o = fX7_remembers_50 119 (qH A (us T 119 12 (nI 7)))) ?_ ?_ 7 0 FU S (by omega) (by unfold FU; omega) ⟨eqo.rf, fun r hr => by omega, fun r _ => rfl⟩
    · obtain ⟨T, g1, g2, g3⟩ := key
      have e0 : eqo (fun x => x = 119 ∨ (125 ≤ x ∧ x ≤ 132)) S (us T 119 12 (nI 7)) := (g1.mo (fun b hb => Or.inr hb)).tr (eqo.us (Or.inl rfl))
      obtain ⟨S', a1, a2, a3, a4, a5⟩ := m_rem50 (A := A) (S := us T 119 12 (nI 7)) (G := G) (n := 7) (H := G.2.1.2) (by decide) (by rw [us_at, if_pos rfl]) (mr_ro h2 (g1.1 122 (by decide)).2) (fun k hk => by
        have h9 := h5 k (by omega)
        have e9 := g2 (7 - 1 - k) (by omega)
        rw [show 7 - 1 - k + 1 = 8 - 1 - k by omega] at e9
        obtain ⟨p1, p2, p3, p4, p5, p6⟩ := h9
        have hq := qz p1
        have ev : ∀ j, j < 387 → (us T 119 12 (nI 7)).2.1 (124 + 1 + (7 - 1 - k)) j = S.2.1 (124 + 1 + (8 - 1 - k)) j := fun j hj => by rw [us_r, e9, fa_fill_in hj]
        exact ⟨p1, by rw [ev _ (by decide)]; exact p2, by rw [ev _ (by decide)]; exact p3, by rw [ev _ (by decide)]; exact p4, p5, fun i hi x hx => by rw [ev _ (by omega)]; exact p6 i hi x hx⟩)
      refine ⟨S', ?_, fin S' (e0.tr a2) (fun k hk => ?_) ?_ ?_, e0.tr a2⟩
      · rw [← a1]
        exact g3
      · rw [a3 k hk, us_at, if_neg hk, (g1.1 119 (by decide)).1]
      · rw [if_pos (by omega)]; exact a4
      · rw [if_pos (by omega)]; exact a5
    · rintro k i T hi ⟨g1, g2, g3⟩
      refine ⟨uA T (124 + 1 + i) (fa_fill (T.2.1 (124 + 1 + (i + 1))) (T.2.1 (124 + 1 + i)) 387), ⟨g1.tr (eqo.uA (by omega)), fun r hr => ?_, fun r hr => ?_⟩, ?_⟩
      · by_cases e : r = i
        · subst e
          rw [uA_at, g3 _ (by omega), g3 _ (by omega)]
        · rw [uA_ne (by omega)]; exact g2 r (by omega)
      · rw [uA_ne (by omega)]; exact g3 r (by omega)
      · show fX7_remembers_11 (k + 1) 119 (nI (i + 1)) (qH A T) = _
        have e1 : nI (i + 1) - 1 = nI i := by
          have := pk_sub (a := i + 1) (b := 1) (by omega)
          rw [Nat.add_sub_cancel] at this
          exact this
        rw [fX7_remembers_11, if_neg (by rw [qlit, nI_leI (by decide) (by omega)]; omega), gr_119_11, q_bs, ar_124 (show i + 1 < 8 by omega), q_bs, q_bs, e1, ar_124 (by omega), q_bs, m_copies (ql_past _ (by omega)) (ql_past _ (by omega)) (by omega), q_cal, q_vn, nI_1]
    · rintro k T ⟨g1, g2, g3⟩
      refine ⟨T, g1, g2, ?_⟩
      have hb : T.1 119 12 = nI 8 := by rw [(g1.1 119 (by decide)).1]; exact h4
      show fX7_remembers_11 (k + 1) 119 (nI (7 + 1)) (qH A T) = _
      rw [fX7_remembers_11, if_pos (by decide), gi_119_12, q_bs, hb, pi_119_12, q_bs]
      rfl
  · rw [if_neg (by rw [qlit, nI_eq (by omega) (by decide)]; exact c)]
    obtain ⟨S', a1, a2, a3, a4, a5⟩ := m_rem50 (A := A) (G := G) (H := G.2.1.2) (show G.2.1.1 < 8 by omega) h4 h2 h5
    refine ⟨S', a1, fin S' a2 a3 ?_ ?_, a2⟩
    · rw [if_neg (by omega)]; exact a4
    · rw [if_neg (by omega)]; exact a5
theorem m_remembers (h : MB G S) : ∃ S', fX7_remembers 119 (qH A S) = some (.inl none, qH A S') ∧ MB (gH G) S' ∧ eqo (fun x => x = 119 ∨ (125 ≤ x ∧ x ≤ 132)) S S' := by
  obtain ⟨S', a1, ⟨a2, a3⟩, a4⟩ := m_remI (A := A) h.1
  exact ⟨S', a1, ⟨a2, tm_gen h.1.2.1.1 h.2.1 (fun b hb => (a4.1 b (by omega)).2) (fun k hk => a3 k (by omega)), by rw [a3 0 (by decide)]; exact h.2.2⟩, a4⟩
/-- only what is now has changed -/
theorem mb_now2 {S' : SS} {σ : PS} (h : MB G S) (hX : eqo (fun x => x = 122 ∨ (265 ≤ x ∧ x < 270)) S S') (hσ : mrR S' 122 σ) (hf : σ.1 = G.1.1) : MB (σ, G.2) S' := by
  obtain ⟨⟨h1, h2, ⟨h3, h4, h5⟩, ⟨h6, h7, h8⟩, h9, h10⟩, hT, h0⟩ := h
  have e0 := (hX.1 119 (by omega)).1
  have er : ∀ b, 119 < b ∧ b < 265 ∧ b ≠ 122 → S'.2.1 b = S.2.1 b := fun b hb => (hX.1 b (by omega)).2
  have hT2 : TabM G.1.1 S' := tm_gen h2.1 hT (fun b hb => er b (by omega)) (fun k hk => by rw [e0])
  exact ⟨⟨Or.inl ⟨_, h2.1, hT2⟩, hσ, ⟨h3, by rw [e0]; exact h4, fun k (hk : k < G.2.1.1) => mr_ro (h5 k hk) (er (124 + 1 + (G.2.1.1 - 1 - k)) (by omega))⟩, ⟨h6, by rw [e0]; exact h7, fun i hi => by rw [er _ (by omega)]; exact h8 i hi⟩, fun j hj => by rw [er _ (by omega)]; exact h9 j hj, by rw [e0]; exact h10⟩, by rw [hf]; exact hT2, by rw [e0]; exact h0⟩
theorem om_value (h : MI G S) (x y z : Int32) : mOK tcA (.int 0) A S (fX7_value 119 x y z (qH A S)) (oP G x fun p => oQ G y fun a => oQ G z fun v => (.inr (.int (nI (G.1.2.2 p a))), gV G p a v)) := by
  have hq := qz h.2.1.1
  unfold fX7_value fX7_value_29 fX7_value_34
  refine d_B h (fun S1 hB => ?_)
  refine d_P hB x (d_yes (w := 1) (j := 0) hB rfl rfl (by decide) (by decide) rfl) (fun p hp e => ?_)
  refine d_Q hB y (d_yes (w := 1) (j := 0) hB rfl rfl (by decide) (by decide) rfl) (fun a ha e2 => ?_)
  refine d_Q hB z (d_yes (w := 1) (j := 0) hB rfl rfl (by decide) (by decide) rfl) (fun v hv e3 => d_no hB ?_)
  subst e; subst e2; subst e3
  obtain ⟨S2, a1, a2, a3⟩ := m_remembers (A := A) hB
  obtain ⟨r1, r2⟩ := mb_now a2 hp
  have hX : eqo (fun x => x = 122 ∨ (265 ≤ x ∧ x < 270)) S2 (ua S2 122 (3 + 64 * p + a) (nI v)) := eqo.ua (Or.inl rfl)
  have hB3 : MB (gV G p a v) (ua S2 122 (3 + 64 * p + a) (nI v)) := by
    refine mb_now2 a2 hX ?_ rfl
    obtain ⟨s1, s2, s3, s4, s5, s6⟩ := a2.1.2.1
    refine ⟨s1, by rw [ua_at, if_neg (by omega)]; exact s2, by rw [ua_at, if_neg (by omega)]; exact s3, by rw [ua_at, if_neg (by omega)]; exact s4, s5, fun i hi u hu => ?_⟩
    have hu' : u < qF G.1.1 := hu
    show _ = nI (if i = p ∧ u = a then v else G.1.2.2 i u) ∧ (if i = p ∧ u = a then v else G.1.2.2 i u) < qF G.1.1
    rw [ua_at]
    by_cases e : i = p ∧ u = a
    · rw [if_pos e, e.1, e.2, if_pos rfl]; exact ⟨rfl, hv⟩
    · rw [if_neg e, if_neg (by omega)]; exact s6 i hi u hu
  refine d_retG hB3 ((a3.mo (fun b hb => by omega)).tr (hX.mo (fun b hb => by omega))) ?_
  rw [ob_119, q_cv, a1, q_cal, q_vn, ob_119, q_cv, m_at (f := G.1.1) (R := G.1.2.2 p) hB.1.2.1.1 r2 r1 ha, q_cal, q_vi, gr_119_9, q_bs, show (3 : Int32) = nI 3 from rfl, show (64 : Int32) = nI 64 from rfl, pk_mul, nI_add, nI_add, q_si ql_122 (by omega), q_bs]
theorem m_comes (h : MB G S) (hc : G.1.2.1 < 6) {R : Nat → Nat} (hr : rowR G.1.1 S 266 R) : ∃ S', fX7_comes 119 (qH A S) = some (.inl (some (.int (nI G.1.2.1))), qH A S') ∧ MB (gN G R) S' ∧ eqo (fun x => 119 ≤ x ∧ x < 270) S S' := by
  have hq := qz h.1.2.1.1
  obtain ⟨S1, a1, a2, a3⟩ := m_remembers (A := A) h
  have hz : S1.1 119 15 = nI (qF G.1.1) := a2.2.1.2.2.2.2.2.2.1
  have hr1 : rowR G.1.1 S1 266 R := hr.eqo a3 (by omega)
  obtain ⟨s1, s2, s3, s4, s5, s6⟩ := a2.1.2.1
  have hc1 : S1.2.1 122 2 = nI G.1.2.1 := s4
  have key := loopP (fun k x s => fX7_comes_6 k 119 (nI x) (qH A s)) (qF G.1.1) (fun x s => eqo (fun b => b = 122) S1 s ∧ (∀ j, s.2.1 122 j = if 3 + 64 * G.1.2.1 ≤ j ∧ j < 3 + 64 * G.1.2.1 + x then nI (R (j - (3 + 64 * G.1.2.1))) else S1.2.1 122 j)) (fun o => ∃ T, eqo (fun b => b = 122) S1 T ∧ (∀ j, T.2.1 122 j = if 3 + 64 * G.1.2.1 ≤ j ∧ j < 3 + 64 * G.1.2.1 + qF G.1.1 then nI (R (j - (3 + 64 * G.1.2.1))) else S1.2.1 122 j) ∧ o = some (.inl (some (.int (nI G.1.2.1))), qH A (ua T 122 2 (nI (G.1.2.1 + 1))))) ?_ ?_ (qF G.1.1) 0 FU S1 (by omega) (by unfold FU; omega) ⟨eqo.rf, fun j => by rw [if_neg (by omega)]⟩
  · obtain ⟨T, g1, g2, g3⟩ := key
    have hX : eqo (fun x => x = 122 ∨ (265 ≤ x ∧ x < 270)) S1 (ua T 122 2 (nI (G.1.2.1 + 1))) := (g1.mo (fun b hb => Or.inl hb)).tr (eqo.ua (Or.inl rfl))
    refine ⟨ua T 122 2 (nI (G.1.2.1 + 1)), ?_, mb_now2 a2 hX ?_ rfl, (a3.mo (fun b hb => by omega)).tr (hX.mo (fun b hb => by omega))⟩
    · unfold fX7_comes
      rw [ob_119, q_cv, a1, q_cal, q_vn]
      exact g3
    · refine ⟨s1, by rw [ua_at, if_neg (by decide), g2, if_neg (by omega)]; exact s2, by rw [ua_at, if_neg (by decide), g2, if_neg (by omega)]; exact s3, by rw [ua_at, if_pos rfl], by show G.1.2.1 + 1 ≤ 6; omega, fun i hi x hx => ?_⟩
      have hi' : i < G.1.2.1 + 1 := hi
      have hx' : x < qF G.1.1 := hx
      show _ = nI ((if i = G.1.2.1 then R else G.1.2.2 i) x) ∧ (if i = G.1.2.1 then R else G.1.2.2 i) x < qF G.1.1
      rw [ua_at, if_neg (by omega), g2]
      by_cases e : i = G.1.2.1
      · rw [if_pos e, e, if_pos (by omega), show 3 + 64 * G.1.2.1 + x - (3 + 64 * G.1.2.1) = x by omega]
        exact ⟨rfl, (hr x hx).2⟩
      · rw [if_neg e, if_neg (by omega)]
        exact s6 i (show i < G.1.2.1 by omega) x hx
  · rintro k x T hx ⟨g1, g2⟩
    have hzT : T.1 119 15 = nI (qF G.1.1) := by rw [(g1.1 119 (by decide)).1]; exact hz
    have hcT : T.2.1 122 2 = nI G.1.2.1 := by rw [g2, if_neg (by omega)]; exact hc1
    have hrT : T.2.1 266 x = nI (R x) := by rw [(g1.1 266 (by decide)).2]; exact (hr1 x hx).1
    refine ⟨ua T 122 (3 + 64 * G.1.2.1 + x) (nI (R x)), ⟨g1.tr (eqo.ua (X := fun b => b = 122) rfl), fun j => ?_⟩, ?_⟩
    · rw [ua_at, g2]
      by_cases e : j = 3 + 64 * G.1.2.1 + x
      · rw [if_pos e, if_pos (by omega), e, show 3 + 64 * G.1.2.1 + x - (3 + 64 * G.1.2.1) = x by omega]
      · rw [if_neg e]
        by_cases e2 : 3 + 64 * G.1.2.1 ≤ j ∧ j < 3 + 64 * G.1.2.1 + x
        · rw [if_pos e2, if_pos (by omega)]
        · rw [if_neg e2, if_neg (by omega)]
    · show fX7_comes_6 (k + 1) 119 (nI x) (qH A T) = _
      rw [fX7_comes_6, gi_119_15, q_bs, hzT, if_neg (by rw [nI_leI (by omega) (by omega)]; omega), gr_119_9, q_bs, q_bs, show (2 : Int32) = nI 2 from rfl, q_ai ql_122 (by decide), q_bs, hcT, gr_119_24, q_bs, q_ai ql_266 (by omega), q_bs, hrT, show (3 : Int32) = nI 3 from rfl, show (64 : Int32) = nI 64 from rfl, pk_mul, nI_add, nI_add, q_si ql_122 (by omega), q_bs, nI_1]
  · rintro k T ⟨g1, g2⟩
    have hzT : T.1 119 15 = nI (qF G.1.1) := by rw [(g1.1 119 (by decide)).1]; exact hz
    have hcT : T.2.1 122 2 = nI G.1.2.1 := by rw [g2, if_neg (by omega)]; exact hc1
    have e1 : nI (G.1.2.1 + 1) - 1 = nI G.1.2.1 := by
      have := pk_sub (a := G.1.2.1 + 1) (b := 1) (by omega)
      rw [Nat.add_sub_cancel] at this
      exact this
    refine ⟨T, g1, g2, ?_⟩
    show fX7_comes_6 (k + 1) 119 (nI (qF G.1.1)) (qH A T) = _
    rw [fX7_comes_6, gi_119_15, q_bs, hzT, if_pos (by rw [nI_leI (by omega) (by omega)]; exact Nat.le_refl _), gr_119_9, q_bs, show (2 : Int32) = nI 2 from rfl, q_ai ql_122 (by decide), q_bs, hcT, nI_1, q_si ql_122 (by decide), q_bs, gr_119_9, q_bs, q_ai ql_122 (by decide), q_bs, ua_at, if_pos rfl, e1]
theorem om_after (h : MI G S) (x y : Int32) : mOK tcB (.int 0) A S (fX7_after 119 x y (qH A S)) (oP G x fun p => oP G y fun r => oRm G (.inr (.int (nI G.1.2.1)), gN G (fun u => G.1.2.2 p (G.1.2.2 r u)))) := by
  have hq := qz h.2.1.1
  unfold fX7_after fX7_after_21 fX7_after_26
  refine d_B h (fun S1 hB => ?_)
  refine d_P hB x (d_yes (w := 1) (j := 0) hB rfl rfl (by decide) (by decide) rfl) (fun p hp e => ?_)
  refine d_P hB y (d_yes (w := 1) (j := 0) hB rfl rfl (by decide) (by decide) rfl) (fun r hr e2 => d_no hB ?_)
  refine d_R (w := 2) hB rfl rfl (by decide) rfl (fun hc => ?_)
  subst e; subst e2
  have hf := hB.1.2.1.1
  obtain ⟨p1, p2⟩ := mb_now hB hp
  obtain ⟨r1, r2⟩ := mb_now hB hr
  have hz := hB.2.1.2.2.2.2.2.2.1
  let F : Nat → Int32 := fun x => nI (G.1.2.2 p (G.1.2.2 r x))
  have hX : ∀ g, eqo (fun b => b = 266) S1 (uA S1 266 g) := fun g => eqo.uA (X := fun b => b = 266) rfl
  have hB2 := mb_eqo hB (hX (fa_fill F (S1.2.1 266) (qF G.1.1))) (fun b (hb : b = 266) => by omega)
  have hr2 : rowR G.1.1 (uA S1 266 (fa_fill F (S1.2.1 266) (qF G.1.1))) 266 (fun u => G.1.2.2 p (G.1.2.2 r u)) := rowR.fill (fun x hx => (p1 _ (r1 x hx).2).2)
  obtain ⟨S3, a1, a2, a3⟩ := m_comes (A := A) hB2 hc hr2
  have hl := loopF0 (fun k x s => fX7_after_51 k 119 (nI p) (nI r) (nI x) (qH A s)) (qF G.1.1) (fun x => uA S1 266 (fa_fill F (S1.2.1 266) x)) (some (.inl (some (.int (nI G.1.2.1))), qH A S3)) (by omega) ?_ ?_
  · rw [fa_fill_0, uA_self] at hl
    exact d_retG a2 (((hX _).mo (fun b (hb : b = 266) => by omega)).tr a3) hl
  · intro k x hx
    have n1 : nowR G.1.1 (uA S1 266 (fa_fill F (S1.2.1 266) x)) p (G.1.2.2 p) := p1.eqo (hX _) (by decide)
    have n2 : nowR G.1.1 (uA S1 266 (fa_fill F (S1.2.1 266) x)) r (G.1.2.2 r) := r1.eqo (hX _) (by decide)
    show fX7_after_51 (k + 1) 119 (nI p) (nI r) (nI x) (qH A _) = _
    rw [fX7_after_51, gi_119_15, q_bs, uA_s, hz, if_neg (by rw [nI_leI (by omega) (by omega)]; omega), gr_119_24, q_bs, ob_119, q_cv, m_at hf r2 n2 hx, q_cal, q_vi, ob_119, q_cv, m_at hf p2 n1 (r1 x hx).2, q_cal, q_vi, q_si ql_266 (by omega), q_bs, uaA, nI_1]
    rw [show upd (fa_fill F (S1.2.1 266) x) x (nI (G.1.2.2 p (G.1.2.2 r x))) = fa_fill F (S1.2.1 266) (x + 1) from fa_fill_succ F (S1.2.1 266) x]
  · intro k
    show fX7_after_51 (k + 1) 119 (nI p) (nI r) (nI (qF G.1.1)) (qH A _) = _
    rw [fX7_after_51, gi_119_15, q_bs, uA_s, hz, if_pos (by rw [nI_leI (by omega) (by omega)]; exact Nat.le_refl _), ob_119, q_cv, a1, q_cal, q_vi]
theorem om_back (h : MI G S) (x : Int32) : mOK tcB (.int 0) A S (fX7_back 119 x (qH A S)) (oP G x fun p => oRm G (oPm G p (.inr (.int (nI G.1.2.1)), gN G (liF (G.1.2.2 p) (qF G.1.1))))) := by
  have hq := qz h.2.1.1
  unfold fX7_back fX7_back_18 fX7_back_42 fX7_back_47
  refine d_B h (fun S1 hB => ?_)
  refine d_P hB x (d_yes (w := 1) (j := 0) hB rfl rfl (by decide) (by decide) rfl) (fun p hp e => d_no hB ?_)
  subst e
  have hf := hB.1.2.1.1
  obtain ⟨p1, p2⟩ := mb_now hB hp
  have hz := hB.2.1.2.2.2.2.2.2.1
  unfold oRm oPm
  rw [ob_119, q_cv, m_isFull hB, q_cal, q_vi]
  by_cases hc : G.1.2.1 < 6
  · rw [if_pos hc, if_pos hc, if_pos rfl, ob_119, q_cv, m_perm hf hz p2 p1, q_cal, q_vi]
    by_cases cp : pmB (qF G.1.1) (G.1.2.2 p) = true
    · rw [if_neg (by rw [q_pm0]; exact fun h => h cp), if_pos cp]
      refine d_no hB ?_
      have key := loopP (fun k x s => fX7_back_59 k 119 (nI p) (nI x) (qH A s)) (qF G.1.1) (fun x s => eqo (fun b => b = 266) S1 s ∧ ∀ y, y < qF G.1.1 → (∃ u, u < x ∧ G.1.2.2 p u = y) → s.2.1 266 y = nI (liF (G.1.2.2 p) x y)) (fun o => ∃ S', o = some (.inl (some (.int (nI G.1.2.1))), qH A S') ∧ MB (gN G (liF (G.1.2.2 p) (qF G.1.1))) S' ∧ eqo (fun x => 119 ≤ x ∧ x < 270) S1 S') ?_ ?_ (qF G.1.1) 0 FU S1 (by omega) (by unfold FU; omega) ⟨eqo.rf, fun y _ ⟨u, hu, _⟩ => by omega⟩
      · obtain ⟨S', b1, b2, b3⟩ := key
        exact d_retG b2 b3 b1
      · rintro k x T hx ⟨g1, g2⟩
        have hzT : T.1 119 15 = nI (qF G.1.1) := by rw [(g1.1 119 (by decide)).1]; exact hz
        have n1 : nowR G.1.1 T p (G.1.2.2 p) := p1.eqo g1 (by decide)
        have hl := (p1 x hx).2
        refine ⟨ua T 266 (G.1.2.2 p x) (nI x), ⟨g1.tr (eqo.ua (X := fun b => b = 266) rfl), fun y hy ⟨u, hu, e⟩ => ?_⟩, ?_⟩
        · rw [ua_at]
          show (if y = G.1.2.2 p x then nI x else T.2.1 266 y) = nI (if G.1.2.2 p x = y then x else liF (G.1.2.2 p) x y)
          by_cases e9 : y = G.1.2.2 p x
          · rw [if_pos e9, if_pos e9.symm]
          · rw [if_neg e9, if_neg (fun h => e9 h.symm)]
            refine g2 y hy ⟨u, ?_, e⟩
            by_cases e8 : u = x
            · exact absurd (by rw [← e, e8]) e9
            · omega
        · show fX7_back_59 (k + 1) 119 (nI p) (nI x) (qH A T) = _
          rw [fX7_back_59, gi_119_15, q_bs, hzT, if_neg (by rw [nI_leI (by omega) (by omega)]; omega), gr_119_24, q_bs, ob_119, q_cv, m_at hf p2 n1 hx, q_cal, q_vi, q_si ql_266 (by omega), q_bs, nI_1]
      · rintro k T ⟨g1, g2⟩
        have hzT : T.1 119 15 = nI (qF G.1.1) := by rw [(g1.1 119 (by decide)).1]; exact hz
        have hBT := mb_eqo hB g1 (fun b (hb : b = 266) => by omega)
        have hrT : rowR G.1.1 T 266 (liF (G.1.2.2 p) (qF G.1.1)) := fun y hy => ⟨g2 y hy (pm_on cp hy), (li_ok _ _ (pm_on cp hy)).1⟩
        obtain ⟨S3, a1, a2, a3⟩ := m_comes (A := A) hBT hc hrT
        refine ⟨S3, ?_, a2, (g1.mo (fun b (hb : b = 266) => by omega)).tr a3⟩
        show fX7_back_59 (k + 1) 119 (nI p) (nI (qF G.1.1)) (qH A T) = _
        rw [fX7_back_59, gi_119_15, q_bs, hzT, if_pos (by rw [nI_leI (by omega) (by omega)]; exact Nat.le_refl _), ob_119, q_cv, a1, q_cal, q_vi]
    · rw [if_pos (by rw [q_pm0]; exact cp), if_neg cp]
      exact d_yes (w := 2) (j := 2) hB rfl rfl (by decide) (by decide) rfl
  · rw [if_neg hc, if_neg hc, if_neg (by decide)]
    exact d_yes (w := 2) (j := 2) hB rfl rfl (by decide) (by decide) rfl
end QMR
