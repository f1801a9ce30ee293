/-! the reference's text, all of it -/
section QTT
variable {A : AS} {S : SS} {G : GS}
def mOKt (A : AS) (S : SS) (o : RR) (z : OC) : Prop := ∃ A' S', grw A A' ∧ A'.1 ≤ A.1 + 152 ∧ MI z.2 S' ∧ eqo (fun x => (119 ≤ x ∧ x < 270) ∨ A.1 ≤ x) S S' ∧ (match z.1 with | .inl e => S'.1 119 0 = nI (tcC e) ∧ o = some (.inl (some (.int 0)), qH A' S') | .inr v => S'.1 119 0 = 0 ∧ o = some (.inl (some v), qH A' S'))
/-- the end of a text -/
theorem m_132 {G1 : GS} (h : MI G1 S) (h0 : S.1 119 0 = 0) : (∀ k pl, 0 < k → k < 5 → S.1 119 6 = nI k → S.1 119 7 = nI pl → ∃ S', fX7_text_132 119 (qH A S) = some (.inl (some (.int (nI k - 10))), qH A S') ∧ MI (G1.1, G1.2.1, G1.2.2.1, G1.2.2.2.1, nI pl) S' ∧ S'.1 119 0 = 0 ∧ eqo (fun x => 119 ≤ x ∧ x < 270) S S') ∧ (∀ σ, S.1 119 6 = 0 → S.1 119 7 = -1 → mrR S 123 σ → ∃ S', fX7_text_132 119 (qH A S) = some (.inl (some (.int (nI σ.2.1))), qH A S') ∧ MI (σ, (gH G1).2.1, G1.2.2.1, G1.2.2.2.1, -1) S' ∧ S'.1 119 0 = 0 ∧ eqo (fun x => 119 ≤ x ∧ x < 270) S S') := by
  have mi5 : ∀ v, MI (G1.1, G1.2.1, G1.2.2.1, G1.2.2.2.1, v) (us S 119 5 v) := by
    intro v
    obtain ⟨h1, h2, ⟨h3, h4, h5⟩, ⟨h6, h7, h8⟩, h9, h10⟩ := h
    have sc : ∀ k, k ≠ 5 → (us S 119 5 v).1 119 k = S.1 119 k := fun k hk => by rw [us_at, if_neg hk]
    refine ⟨la_same h1 rfl (fun k hk => sc k (by omega)), h2, ⟨h3, by rw [sc _ (by decide)]; exact h4, h5⟩, ⟨h6, by rw [sc _ (by decide)]; exact h7, h8⟩, h9, by rw [us_at, if_pos rfl]⟩
  refine ⟨fun k pl k0 k5 h6 h7 => ?_, fun σ h6 h7 hσ => ?_⟩
  · have q6 : (us S 119 5 (nI pl)).1 119 6 = nI k := by rw [us_at, if_neg (by decide)]; exact h6
    refine ⟨us S 119 5 (nI pl), ?_, mi5 _, by rw [us_at, if_neg (by decide)]; exact h0, eqo.us (by decide)⟩
    unfold fX7_text_132
    rw [gi_119_7, q_bs, h7, pi_119_5, q_bs, ob_119, q_cv, m_fine0 q6 k0 k5, q_cal, q_vi, if_pos rfl, gi_119_6, q_bs, q6]
  · have q6 : (us S 119 5 (-1)).1 119 6 = 0 := by rw [us_at, if_neg (by decide)]; exact h6
    obtain ⟨S2, a1, ⟨a2, a3⟩, a4⟩ := m_remI (A := A) (mi5 (-1))
    have hσ2 : mrR S2 123 σ := mr_ro hσ (a4.1 123 (by decide)).2
    let S3 := uA S2 122 (fa_fill (S2.2.1 123) (S2.2.1 122) 387)
    have hσ3 : mrR S3 122 σ := mr_cp hσ2
    have mi3 : MI (σ, (gH G1).2.1, G1.2.2.1, G1.2.2.2.1, -1) S3 := by
      obtain ⟨h1, h2, ⟨h3, h4, h5⟩, ⟨h6, h7, h8⟩, h9, h10⟩ := a2
      have er : ∀ r, r ≠ 122 → S3.2.1 r = S2.2.1 r := fun r hr => uA_ne hr
      refine ⟨?_, hσ3, ⟨h3, h4, fun k hk => mr_ro (h5 k hk) (er _ (fun e => by omega))⟩, ⟨h6, h7, fun i hi => by rw [er _ (by decide)]; exact h8 i hi⟩, fun j hj => by rw [er _ (by decide)]; exact h9 j hj, h10⟩
      rcases h1 with ⟨g, hg, hT⟩ | hu
      · exact Or.inl ⟨g, hg, tm_gen hg hT (fun r hr => er r (by omega)) (fun _ _ => rfl)⟩
      · exact Or.inr hu
    refine ⟨S3, ?_, mi3, (a3 0 (by decide)).trans (by rw [us_at, if_neg (by decide)]; exact h0), ((eqo.us (by decide)).tr (a4.mo (fun x hx => by omega))).tr (eqo.uA (by decide))⟩
    unfold fX7_text_132
    rw [gi_119_7, q_bs, h7, pi_119_5, q_bs, ob_119, q_cv, m_fine1 q6, q_cal, q_vi, if_neg (by decide), ob_119, q_cv, a1, q_cal, q_vn, gr_119_10, q_bs, gr_119_9, q_bs, m_copies ql_123 ql_122 (by decide), q_cal, q_vn, gr_119_9, q_bs, show (2 : Int32) = nI 2 from rfl, q_ai ql_122 (by decide), q_bs]
    rw [show (uA S2 122 (fa_fill (S2.2.1 123) (S2.2.1 122) 387)).2.1 122 2 = nI σ.2.1 from hσ3.2.2.2.1]
theorem om_text (hA : 271 ≤ A.1) (h : MI G S) (x : Int32) : mOKt A S (fX7_text 119 x (qH A S)) (oN G 0 G.2.2.1.1 x fun n => gT G n) := by
  have h9 := h.2.2.2.1.1
  have h7 : (us S 119 0 0).1 119 2 = nI G.2.2.1.1 := (mi_0 (v := 0) h).2.2.2.1.2.1
  have mi1 : MI G (us S 119 0 0) := mi_0 h
  have z0 : (us S 119 0 0).1 119 0 = 0 := by rw [us_at, if_pos rfl]
  unfold fX7_text oN
  rw [pi_119_0, q_bs, gi_119_2, q_bs, h7, m_isN (l := 0) (h9 := (nI G.2.2.1.1).toInt64) (lo := 0) (hi := G.2.2.1.1) rfl rfl (Nat.zero_le _) (by omega), q_cal, q_vi]
  unfold fX7_text_25
  by_cases c : okI (G.2.2.1.1 + 1) x = true ∧ 0 ≤ x.toNatClampNeg
  · obtain ⟨n, n1, rfl⟩ := ok_iff.mp c.1
    rw [if_pos c, if_pos c, if_neg (by decide), ob_119, q_cv, m_bad0 z0, q_cal, q_vi, if_pos rfl, nI_clamp (by omega)]
    generalize hS1 : us S 119 0 0 = S1 at *
    let S2 := us (us (us (us (us S1 119 2 0) 119 3 (nI n)) 119 4 0) 119 6 0) 119 7 (-1)
    have v2 : S2.1 119 2 = nI 0 := by simp [S2, us_at]; rfl
    have v3 : S2.1 119 3 = nI n := by simp [S2, us_at]
    have v4 : S2.1 119 4 = nI 0 := by simp [S2, us_at]; rfl
    have v6 : S2.1 119 6 = 0 := by simp [S2, us_at]
    have v7 : S2.1 119 7 = -1 := by simp [S2, us_at]
    have vo : ∀ k, k ≠ 2 → k ≠ 3 → k ≠ 4 → k ≠ 6 → k ≠ 7 → S2.1 119 k = S1.1 119 k := fun k q1 q2 q3 q4 q5 => by
      show (us (us (us (us (us S1 119 2 0) 119 3 (nI n)) 119 4 0) 119 6 0) 119 7 (-1)).1 119 k = _
      rw [us_at, us_at, us_at, us_at, us_at, if_neg q5, if_neg q4, if_neg q3, if_neg q2, if_neg q1]
    have e12 : eqo (fun x => x = 119) S1 S2 := ((((eqo.us (X := fun x => x = 119) rfl).tr (eqo.us rfl)).tr (eqo.us rfl)).tr (eqo.us rfl)).tr (eqo.us rfl)
    let S3 := uA S2 123 (fa_fill (fun _ => nI 0) (S2.2.1 123) 387)
    obtain ⟨i1, i2, ⟨i3, i4, i5⟩, ⟨i6, i7, i8⟩, i9, i10⟩ := mi1
    have er3 : ∀ r, r ≠ 123 → S3.2.1 r = S1.2.1 r := fun r hr => by show (uA S2 123 _).2.1 r = _; rw [uA_ne hr]; rfl
    have la3 : laidM S3 := by
      rcases i1 with ⟨g, hg, hT⟩ | ⟨u1, u2⟩
      · exact Or.inl ⟨g, hg, tm_gen hg hT (fun r hr => er3 r (by omega)) (fun k hk => vo k (by omega) (by omega) (by omega) (by omega) (by omega))⟩
      · exact Or.inr ⟨(vo 13 (by decide) (by decide) (by decide) (by decide) (by decide)).trans u1, (vo 14 (by decide) (by decide) (by decide) (by decide) (by decide)).trans u2⟩
    have hT3 : MT G.2.2.1.2 n S3 := ⟨by omega, fun i hi => (i8 i (by omega)).2, v3, fun i hi => by rw [er3 _ (by decide)]; exact i8 i (by omega)⟩
    have e03 : eqo (fun x => (119 ≤ x ∧ x < 270) ∨ A.1 ≤ x) S S3 := by
      rw [← hS1] at e12
      exact ((eqo.us (by omega)).tr (e12.mo (fun x (hx : x = 119) => by omega))).tr (eqo.uA (by omega))
    obtain ⟨S4, f1, f2, f3, f4⟩ := m_field (A := A) (a := 0) hT3 la3 v4 (Nat.zero_le _) v6
    -- the state behind the reading
    have fin : ∀ A' S5, grw A A' → A'.1 ≤ A.1 + 152 → (∀ r, (119 < r ∧ r < 123) ∨ (123 < r ∧ r < 133) → S5.2.1 r = S1.2.1 r) → laidM S5 → S5.1 119 2 = nI 0 → S5.1 119 5 = S1.1 119 5 → S5.1 119 12 = S1.1 119 12 → S5.1 119 0 = 0 → eqo (fun x => (119 ≤ x ∧ x < 270) ∨ A.1 ≤ x) S S5 → (match pText G.2.2.1.2 n with | .inl e => (0 < e.1 ∧ e.1 < 5) ∧ S5.1 119 6 = nI e.1 ∧ S5.1 119 7 = nI e.2 | .inr σ => S5.1 119 6 = 0 ∧ S5.1 119 7 = -1 ∧ mrR S5 123 σ) → mOKt A S (fX7_text_132 119 (qH A' S5)) (gT G n) := by
      intro A' S5 q1 q2 q3 q4 q5 q6 q7 q8 q9 q10
      have hI : MI (G.1, G.2.1, (0, G.2.2.1.2), G.2.2.2.1, G.2.2.2.2) S5 := ⟨q4, mr_ro i2 (q3 _ (by omega)), ⟨i3, by rw [q7]; exact i4, fun k (hk : k < G.2.1.1) => mr_ro (i5 k hk) (q3 (124 + 1 + (G.2.1.1 - 1 - k)) (by omega))⟩, ⟨Nat.zero_le _, q5, fun i hi => by have hi' : i < 0 := hi; omega⟩, fun j hj => by rw [q3 _ (by omega)]; exact i9 j hj, by rw [q6]; exact i10⟩
      obtain ⟨t1, t2⟩ := m_132 (A := A') hI q8
      unfold gT
      cases hres : pText G.2.2.1.2 n with
      | inl e =>
        rw [hres] at q10
        obtain ⟨S6, y1, y2, y3, y4⟩ := t1 e.1 e.2 q10.1.1 q10.1.2 q10.2.1 q10.2.2
        exact ⟨A', S6, q1, q2, y2, q9.tr (y4.mo (fun x hx => Or.inl hx)), y3, y1⟩
      | inr σ =>
        rw [hres] at q10
        obtain ⟨S6, y1, y2, y3, y4⟩ := t2 σ q10.1 q10.2.1 q10.2.2
        exact ⟨A', S6, q1, q2, y2, q9.tr (y4.mo (fun x hx => Or.inl hx)), y3, y1⟩
    have er4 : ∀ r, (119 < r ∧ r < 123) ∨ (123 < r ∧ r < 133) → S4.2.1 r = S1.2.1 r := fun r hr => by rw [(f2.1.1 r (by omega)).2]; exact er3 r (by omega)
    have s4 : ∀ k, k = 0 ∨ k = 5 ∨ k = 12 → S4.1 119 k = S1.1 119 k := fun k hk => (f2.2.1 k (by omega) (by omega) (by omega) (by omega) (by omega)).trans (vo k (by omega) (by omega) (by omega) (by omega) (by omega))
    have s42 : S4.1 119 2 = nI 0 := (f2.2.1 2 (by decide) (by decide) (by decide) (by decide) (by decide)).trans v2
    have e04 : eqo (fun x => (119 ≤ x ∧ x < 270) ∨ A.1 ≤ x) S S4 := e03.tr (f2.1.mo (fun x hx => by omega))
    have base : fX7_text_62 FU 119 0 (qH A S2) = fX7_text_86 FU 119 (qH A S4) := by
      have hl := loopF0 (fun k i s => fX7_text_62 k 119 (nI i) (qH A s)) 387 (fun i => uA S2 123 (fa_fill (fun _ => nI 0) (S2.2.1 123) i)) (fX7_text_86 FU 119 (qH A S4)) (by decide) ?_ ?_
      · rw [fa_fill_0, uA_self] at hl
        exact hl
      · intro k i hi
        show fX7_text_62 (k + 1) 119 (nI i) (qH A _) = _
        rw [fX7_text_62, if_neg (by rw [qlit, nI_leI (by decide) (by omega)]; omega), gr_119_10, q_bs, q_si ql_123 hi, q_bs, uaA, nI_1]
        rw [show upd (fa_fill (fun _ => nI 0) (S2.2.1 123) i) i 0 = fa_fill (fun _ => nI 0) (S2.2.1 123) (i + 1) from fa_fill_succ (fun _ => nI 0) (S2.2.1 123) i]
      · intro k
        show fX7_text_62 (k + 1) 119 (nI 387) (qH A _) = _
        rw [fX7_text_62, if_pos (by decide), ob_119, q_cv]
        rw [show fX7_readsField 119 (qH A (uA S2 123 (fa_fill (fun _ => nI 0) (S2.2.1 123) 387))) = _ from f1, q_cal, q_vn]
    rw [pi_119_2, q_bs, pi_119_3, q_bs, pi_119_4, q_bs, pi_119_6, q_bs, pi_119_7, q_bs]
    rw [show fX7_text_62 FU 119 0 (qH A (us (us (us (us (us S1 119 2 0) 119 3 (nI n)) 119 4 0) 119 6 0) 119 7 (-1))) = _ from base]
    cases hres : pFld G.2.2.1.2 n (sk G.2.2.1.2 n 0) with
    | inl e =>
      rw [hres] at f4
      obtain ⟨y1, y2, y3⟩ := f4
      rw [show FU = 19999 + 1 from rfl, fX7_text_86, ob_119, q_cv, m_fine0 y2 y1.1 y1.2, q_cal, q_vi, if_pos rfl]
      refine fin A S4 grw.rf (by omega) er4 f3 s42 (s4 5 (by decide)) (s4 12 (by decide)) ((s4 0 (by decide)).trans z0) e04 ?_
      unfold pText
      rw [hres]
      exact ⟨y1, y2, y3⟩
    | inr w =>
      obtain ⟨f, p⟩ := w
      rw [hres] at f4
      obtain ⟨y1, y2, y3, ⟨a', y4, y5, y6⟩, y7, y8, y9⟩ := f4
      have y6' : sk G.2.2.1.2 n a' = p := y6
      have hC4 : MC G.2.2.1.2 n f 0 (fun _ _ => 0) S4 := by
        refine ⟨hT3.1, hT3.2.1, y2, ⟨y1, y7, y8, ?_, Nat.zero_le _, fun i hi => by have hi' : i < 0 := hi; omega⟩, (f2.2.1 3 (by decide) (by decide) (by decide) (by decide) (by decide)).trans v3, fun i hi => by rw [er4 _ (by omega)]; exact i8 i (by omega)⟩
        rw [y9 2 (by decide)]
        show (uA S2 123 _).2.1 123 2 = _
        rw [uA_at, fa_fill_in (by decide)]
      obtain ⟨A', S5, b1, b2, b3, b4, b5, b6⟩ := m_polys (f := f) 7 0 (fun _ _ => 0) FU A S4 a' (by decide) (by unfold FU; omega) hA hC4 y4 y5 y3
      rw [y6'] at b6
      rw [b1]
      refine fin A' S5 b2 (by omega) (fun r hr => by rw [(b3.1.1 r (by omega)).2]; exact er4 r hr) (Or.inl ⟨f, y1, b5⟩) ((b3.2.1 2 (by decide) (by decide) (by decide) (by decide) (by decide)).trans s42) ((b3.2.1 5 (by decide) (by decide) (by decide) (by decide) (by decide)).trans (s4 5 (by decide))) ((b3.2.1 12 (by decide) (by decide) (by decide) (by decide) (by decide)).trans (s4 12 (by decide))) ((b3.2.1 0 (by decide) (by decide) (by decide) (by decide) (by decide)).trans ((s4 0 (by decide)).trans z0)) (e04.tr (b3.1.mo (fun x hx => by omega))) ?_
      unfold pText
      rw [hres]
      show (match bnd (pPolys G.2.2.1.2 n f 7 0 (fun _ _ => 0) p) (fun w => (.inr (f, w.1, w.2) : PR PS)) with | .inl e => _ | .inr σ => _)
      cases hres2 : pPolys G.2.2.1.2 n f 7 0 (fun _ _ => 0) p with
      | inl e =>
        rw [hres2] at b6
        exact b6
      | inr w =>
        rw [hres2] at b6
        have h77 : S5.1 119 7 = -1 := by
          rw [(b3.2.2 b6.1).2, (f2.2.2 y3).2]
          exact v7
        exact ⟨b6.1, h77, b6.2⟩
  · rw [if_neg c, if_neg c, if_pos rfl, ob_119, q_cv]
    have hb := m_bad1 (A := A) (S := us S 119 0 0) (w := 1) (j := 1) z0 (by decide) (by decide)
    rw [show fX7_bad 119 1 1 1 (qH A (us S 119 0 0)) = _ from hb, q_cal, q_vi, if_neg (by decide)]
    have e1 : (us S 119 0 0).2.1 120 1 = G.2.2.2.1 1 := mi1.2.2.2.2.1 1 (by decide)
    have h2 := mi_ref (j := 1) (mi_0 (v := nI 1) mi1)
    rw [← e1] at h2
    refine ⟨A, _, grw.rf, by omega, h2, ((eqo.us (by omega)).tr (eqo.us (by omega))).tr (eqo.ua (by omega)), ?_, rfl⟩
    rw [ua_s, us_at, if_pos rfl]
    rfl
end QTT
