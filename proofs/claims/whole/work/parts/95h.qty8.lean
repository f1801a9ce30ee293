/-! the reference's text -/
def frT (N : Nat) (S S' : SS) : Prop := eqo (fun x => x = 119 ∨ x = 123 ∨ N ≤ x) S S' ∧ (∀ k, k ≠ 4 → k ≠ 6 → k ≠ 7 → k ≠ 22 → k ≠ 23 → S'.1 119 k = S.1 119 k) ∧ (S'.1 119 6 = 0 → S.1 119 6 = 0 ∧ S'.1 119 7 = S.1 119 7)
theorem frT.of {N : Nat} {S S' : SS} (h : frm N S S') : frT N S S' := ⟨h.1.mo (fun x hx => by omega), h.2⟩
theorem frT.rf {N : Nat} {S : SS} : frT N S S := frT.of frm.rf
theorem frT.tr {N N' : Nat} {S S' S'' : SS} (h : frT N S S') (h' : frT N' S' S'') (hn : N ≤ N') : frT N S S'' := ⟨h.1.tr (h'.1.mo (fun x hx => by omega)), fun k a1 a2 a3 a4 a5 => (h'.2.1 k a1 a2 a3 a4 a5).trans (h.2.1 k a1 a2 a3 a4 a5), fun h9 => ⟨(h.2.2 (h'.2.2 h9).1).1, (h'.2.2 h9).2.trans (h.2.2 (h'.2.2 h9).1).2⟩⟩
theorem cb_m1 {b : Nat → Nat} {n k : Nat} (hb : ∀ i, i < n → b i < 256) : cb b n k = -1 ↔ kd b n k = 0 := by
  rw [kd_0]
  unfold cb
  by_cases h : k < n
  · rw [if_pos h]
    exact ⟨fun e => absurd e (ne_m1 (by have := hb k h; omega)), fun h' => by omega⟩
  · rw [if_neg h]
    exact ⟨fun _ => by omega, fun _ => rfl⟩
section QTS
variable {A : AS} {S : SS} {b : Nat → Nat} {n f c a : Nat} {W : Nat → Nat → Nat}
theorem m_poly43 (hC : MC b n f c W S) (hc : c < 6) {r : Nat} {R : Nat → Nat} (hr : isR A r) (hR : rowR f S r R) : ∃ S', fX7_readsPoly_43 FU 119 r 0 (qH A S) = some (.inl none, qH A S') ∧ eqo (fun x => x = 123) S S' ∧ MC b n f (c + 1) (fun i => if i = c then R else W i) S' := by
  obtain ⟨h1, h2, hT, ⟨m1, m2, m3, m4, m5, m6⟩, h3, h4⟩ := hC
  have hf : f < nF := m1
  have hq := qz hf
  have hz : S.1 119 15 = nI (qF f) := hT.2.2.2.2.2.2.1
  have hcn : S.2.1 123 2 = nI c := m4
  have hr1 := hr.1
  have key := loopP (fun k x s => fX7_readsPoly_43 k 119 r (nI x) (qH A s)) (qF f) (fun x s => eqo (fun b => b = 123) S s ∧ (∀ j, s.2.1 123 j = if 3 + 64 * c ≤ j ∧ j < 3 + 64 * c + x then nI (R (j - (3 + 64 * c))) else S.2.1 123 j)) (fun o => ∃ T, eqo (fun b => b = 123) S T ∧ (∀ j, T.2.1 123 j = if 3 + 64 * c ≤ j ∧ j < 3 + 64 * c + qF f then nI (R (j - (3 + 64 * c))) else S.2.1 123 j) ∧ o = some (.inl none, qH A (ua T 123 2 (nI (c + 1))))) ?_ ?_ (qF f) 0 FU S (by omega) (by unfold FU; omega) ⟨eqo.rf, fun j => by rw [if_neg (by omega)]⟩
  · obtain ⟨T, g1, g2, g3⟩ := key
    have hX : eqo (fun x => x = 123) S (ua T 123 2 (nI (c + 1))) := g1.tr (eqo.ua (X := fun x => x = 123) rfl)
    refine ⟨ua T 123 2 (nI (c + 1)), g3, hX, h1, h2, tm_gen hf hT (fun x hx => (hX.1 x (fun (h : x = 123) => by omega)).2) (fun k _ => by rw [(hX.1 119 (by decide)).1]), ⟨hf, by rw [ua_at, if_neg (by decide), g2, if_neg (by omega)]; exact m2, by rw [ua_at, if_neg (by decide), g2, if_neg (by omega)]; exact m3, by rw [ua_at, if_pos rfl], by show c + 1 ≤ 6; omega, fun i hi x hx => ?_⟩, by rw [(hX.1 119 (by decide)).1]; exact h3, fun i hi => by rw [(hX.1 121 (by decide)).2]; exact h4 i hi⟩
    have hi' : i < c + 1 := hi
    have hx' : x < qF f := hx
    show _ = nI ((if i = c then R else W i) x) ∧ (if i = c then R else W i) x < qF f
    rw [ua_at, if_neg (by omega), g2]
    by_cases e : i = c
    · rw [if_pos e, e, if_pos (by omega), show 3 + 64 * c + x - (3 + 64 * c) = x by omega]
      exact ⟨rfl, (hR x hx).2⟩
    · rw [if_neg e, if_neg (by omega)]
      exact m6 i (show i < c by omega) x hx
  · rintro k x T hx ⟨g1, g2⟩
    have hzT : T.1 119 15 = nI (qF f) := by rw [(g1.1 119 (by decide)).1]; exact hz
    have hcT : T.2.1 123 2 = nI c := by rw [g2, if_neg (by omega)]; exact hcn
    have hrT : T.2.1 r x = nI (R x) := by rw [(g1.1 r (fun (h : r = 123) => by omega)).2]; exact (hR x hx).1
    refine ⟨ua T 123 (3 + 64 * c + x) (nI (R x)), ⟨g1.tr (eqo.ua (X := fun b => b = 123) rfl), fun j => ?_⟩, ?_⟩
    · rw [ua_at, g2]
      by_cases e : j = 3 + 64 * c + x
      · rw [if_pos e, if_pos (by omega), e, show 3 + 64 * c + x - (3 + 64 * c) = x by omega]
      · rw [if_neg e]
        by_cases e2 : 3 + 64 * c ≤ j ∧ j < 3 + 64 * c + x
        · rw [if_pos e2, if_pos (by omega)]
        · rw [if_neg e2, if_neg (by omega)]
    · show fX7_readsPoly_43 (k + 1) 119 r (nI x) (qH A T) = _
      rw [fX7_readsPoly_43, gi_119_15, q_bs, hzT, if_neg (by rw [nI_leI (by omega) (by omega)]; omega), gr_119_10, q_bs, q_bs, show (2 : Int32) = nI 2 from rfl, q_ai ql_123 (by decide), q_bs, hcT, q_ai hr.l (by omega), q_bs, hrT, show (3 : Int32) = nI 3 from rfl, show (64 : Int32) = nI 64 from rfl, pk_mul, nI_add, nI_add, q_si ql_123 (by omega), q_bs, nI_1]
  · rintro k T ⟨g1, g2⟩
    have hzT : T.1 119 15 = nI (qF f) := by rw [(g1.1 119 (by decide)).1]; exact hz
    have hcT : T.2.1 123 2 = nI c := by rw [g2, if_neg (by omega)]; exact hcn
    refine ⟨T, g1, g2, ?_⟩
    show fX7_readsPoly_43 (k + 1) 119 r (nI (qF f)) (qH A T) = _
    rw [fX7_readsPoly_43, gi_119_15, q_bs, hzT, if_pos (by rw [nI_leI (by omega) (by omega)]; exact Nat.le_refl _), gr_119_10, q_bs, show (2 : Int32) = nI 2 from rfl, q_ai ql_123 (by decide), q_bs, hcT, nI_1, q_si ql_123 (by decide), q_bs]
/-- one poly more, or a fault -/
theorem m_rdPoly (hA : 271 ≤ A.1) (hC : MC b n f c W S) (h4 : S.1 119 4 = nI a) (ha : a ≤ n) (h6 : S.1 119 6 = 0) (p : Nat) :
    ∃ A' S', fX7_readsPoly 119 (nI p) (qH A S) = some (.inl none, qH A' S') ∧ grw A A' ∧ frT A.1 S S' ∧ (match (if c < 6 then bnd (pS b n f c W (pBr b n f c W 4) (sk b n a)) (fun r => if kd b n r.2 = 59 then (.inr (r.1, nx b n r.2) : PR (RW × Nat)) else .inl (1, r.2)) else .inl (3, p)) with
      | .inl e => (0 < e.1 ∧ e.1 < 5) ∧ S'.1 119 6 = nI e.1 ∧ S'.1 119 7 = nI e.2 ∧ 2 * A'.1 ≤ 2 * A.1 + (n - a) + 4
      | .inr w => S'.1 119 6 = 0 ∧ MC b n f (c + 1) (fun i => if i = c then w.1 else W i) S' ∧ ∃ a', S'.1 119 4 = nI a' ∧ a' ≤ n ∧ a < a' ∧ sk b n a' = w.2 ∧ 2 * A'.1 ≤ 2 * A.1 + (a' - a)) := by
  have hf : f < nF := hC.2.2.2.1.1
  have hcn : S.2.1 123 2 = nI c := hC.2.2.2.1.2.2.2.1
  have hc6 : c ≤ 6 := hC.2.2.2.1.2.2.2.2.1
  unfold fX7_readsPoly
  rw [gr_119_10, q_bs, show (2 : Int32) = nI 2 from rfl, q_ai ql_123 (by decide), q_bs, hcn]
  by_cases c6 : c < 6
  · rw [if_neg (by rw [qlit, nI_eq (by omega) (by decide)]; omega), if_pos c6]
    unfold fX7_readsPoly_17
    let S1 := us S 119 23 0
    have f1 : frm A.1 S S1 := frm.us (by decide)
    have hC1 := mc_frm hC f1 hA
    have sc1 : ∀ k, k ≠ 23 → S1.1 119 k = S.1 119 k := fun k hk => by show (us _ _ _ _).1 119 k = _; rw [us_at, if_neg hk]
    have h231 : S1.1 119 23 = nI (4 - 4) := by show (us _ _ _ _).1 119 23 = _; rw [us_at, if_pos rfl]; rfl
    obtain ⟨A1, S2, r, b1, b2, b3, b4, b5, b6, b7⟩ := m_sum hf 4 11 (by decide) (by decide) A S1 a hA hC1 ((sc1 4 (by decide)).trans h4) ha ((sc1 6 (by decide)).trans h6) h231
    rw [pi_119_23, q_bs, ob_119, q_cv]
    rw [show fX7_sum 12 119 (qH A (us S 119 23 0)) = _ from b1, q_cal, q_vr, ob_119, q_cv]
    have f2 : frm A.1 S S2 := f1.tr b3 (Nat.le_refl _)
    have hC2 := mc_frm hC f2 hA
    unfold mRes at b7
    cases hres : pS b n f c W (pBr b n f c W 4) (sk b n a) with
    | inl e =>
      rw [hres] at b7
      obtain ⟨y1, y2, y3, y4, y5⟩ := b7
      rw [m_must0 y2 y1.1 y1.2, q_cal, q_vn, ob_119, q_cv, m_fine0 y2 y1.1 y1.2, q_cal, q_vi, if_pos rfl]
      exact ⟨A1, S2, rfl, b2, frT.of f2, y1, y2, y3, y5⟩
    | inr w =>
      obtain ⟨R, p9⟩ := w
      rw [hres] at b7
      obtain ⟨y1, y2, a', y3, y4, y5, y6, y7⟩ := b7
      have y6' : sk b n a' = p9 := y6
      have hpa := sk_ge (b := b) (n := n) (p := a')
      rw [y6'] at hpa
      have hm := m_must (A := A1) (c := 59) (c9 := 59) (mt_of hC2) y3 y4 y1 (by decide) rfl
      rw [y6'] at hm
      rw [hm]
      show ∃ A' S', _ ∧ _ ∧ _ ∧ (match (if kd b n p9 = 59 then (.inr (R, nx b n p9) : PR (RW × Nat)) else .inl (1, p9)) with | .inl e => _ | .inr w => _)
      by_cases k59 : kd b n p9 = 59
      · have hlt := kd_lt (show kd b n p9 ≠ 0 by omega)
        have hg9 : p9 < en b n p9 := en_gt
        let S3 := us S2 119 4 (nI (en b n p9))
        have f3 : frm A.1 S S3 := f2.tr (frm.us (by decide)) (Nat.le_refl _)
        have h63 : S3.1 119 6 = 0 := by show (us _ _ _ _).1 119 6 = _; rw [us_at, if_neg (by decide)]; exact y1
        obtain ⟨S4, d1, d2, d3⟩ := m_poly43 (A := A1) (S := S3) (mc_frm hC f3 hA) c6 b6 y2
        have e119 : S4.1 119 = S3.1 119 := (d2.1 119 (by decide)).1
        rw [if_pos k59, if_pos k59, q_cal, q_vn, ob_119, q_cv]
        rw [show fX7_fine 119 (qH A1 (us S2 119 4 (nI (en b n p9)))) = _ from m_fine1 h63, q_cal, q_vi, if_neg (by decide)]
        refine ⟨A1, S4, d1, b2, (frT.of f3).tr (N' := A.1) ⟨d2.mo (fun x (hx : x = 123) => Or.inr (Or.inl hx)), fun k _ _ _ _ _ => by rw [e119], fun h => by rw [e119] at h ⊢; exact ⟨h, rfl⟩⟩ (Nat.le_refl _), by rw [e119]; exact h63, d3, en b n p9, by rw [e119]; show (us _ _ _ _).1 119 4 = _; rw [us_at, if_pos rfl], en_le hlt, by omega, rfl, by omega⟩
      · obtain ⟨w1, w2, w3, w4⟩ := wr_v (S := us S2 119 4 (nI p9)) (k := 1) (p := p9)
        rw [if_neg k59, if_neg k59, q_cal, q_vn, ob_119, q_cv, m_fine0 (k := 1) w1 (by decide) (by decide), q_cal, q_vi, if_pos rfl]
        exact ⟨A1, _, rfl, b2, frT.of ((f2.tr (frm.us (by decide)) (Nat.le_refl _)).tr (wr_frm (by decide)) (Nat.le_refl _)), (by decide : 0 < 1 ∧ 1 < 5), w1, w2, by omega⟩
  · obtain ⟨w1, w2, w3, w4⟩ := wr_v (S := S) (k := 3) (p := p)
    rw [if_pos (by rw [show c = 6 by omega]; rfl), if_neg c6, ob_119, q_cv, m_wrong1 (k := 3) (k9 := 3) h6 rfl, q_cal, q_vn]
    unfold fX7_readsPoly_17
    let S1 := us (wrS S 3 p) 119 23 0
    have f1 : frm A.1 S S1 := (wr_frm (by decide)).tr (frm.us (by decide)) (Nat.le_refl _)
    have h61 : S1.1 119 6 = nI 3 := by show (us _ _ _ _).1 119 6 = _; rw [us_at, if_neg (by decide)]; exact w1
    have h71 : S1.1 119 7 = nI p := by show (us _ _ _ _).1 119 7 = _; rw [us_at, if_neg (by decide)]; exact w2
    have hz1 : S1.1 119 15 = nI (qF f) := (mc_frm hC f1 hA).2.2.1.2.2.2.2.2.2.1
    have hu := m_unf hf (fX7_sum 11) A S1 3 hA hz1 h61 (by decide) (by decide)
    have h62 : (zeroS S1 A.1 f).1 119 6 = nI 3 := h61
    rw [pi_119_23, q_bs, ob_119, q_cv]
    rw [show fX7_sum 12 119 (qH A (us (wrS S 3 p) 119 23 0)) = _ from hu, q_cal, q_vr, ob_119, q_cv, m_must0 h62 (by decide) (by decide), q_cal, q_vn, ob_119, q_cv, m_fine0 h62 (by decide) (by decide), q_cal, q_vi, if_pos rfl]
    exact ⟨qN A, _, rfl, grw.n, frT.of (f1.tr (frm.uA (Nat.le_refl _)) (Nat.le_refl _)), (by decide : 0 < 3 ∧ 3 < 5), h61, h71, by show 2 * (A.1 + 1) ≤ _; omega⟩
theorem m_polys : ∀ k c W K A S a, c + k = 7 → k + 1 < K → 271 ≤ A.1 → MC b n f c W S → S.1 119 4 = nI a → a ≤ n → S.1 119 6 = 0 →
    ∃ A' S', fX7_text_86 K 119 (qH A S) = fX7_text_132 119 (qH A' S') ∧ grw A A' ∧ frT A.1 S S' ∧ 2 * A'.1 ≤ 2 * A.1 + (n - a) + 4 ∧ TabM f S' ∧ (match pPolys b n f k c W (sk b n a) with
      | .inl e => (0 < e.1 ∧ e.1 < 5) ∧ S'.1 119 6 = nI e.1 ∧ S'.1 119 7 = nI e.2
      | .inr w => S'.1 119 6 = 0 ∧ mrR S' 123 (f, w.1, w.2)) := by
  intro k
  induction k with
  | zero =>
    intro c W K A S a h1 h2 hA hC h4 ha h6
    have : c ≤ 6 := hC.2.2.2.1.2.2.2.2.1
    omega
  | succ k ih =>
    intro c W K A S a h1 h2 hA hC h4 ha h6
    obtain ⟨K, rfl⟩ : ∃ k', K = k' + 1 := ⟨K - 1, by omega⟩
    have hf : f < nF := hC.2.2.2.1.1
    have hb := hC.2.1
    have hpa := sk_ge (b := b) (n := n) (p := a)
    have hpn := sk_le (b := b) ha
    have hid : sk b n (sk b n a) = sk b n a := sk_id
    have hh := m_here (A := A) (mt_of hC) h4 ha
    let S1 := us S 119 4 (nI (sk b n a))
    have f1 : frm A.1 S S1 := frm.us (by decide)
    have hC1 := mc_frm hC f1 hA
    have h41 : S1.1 119 4 = nI (sk b n a) := by show (us _ _ _ _).1 119 4 = _; rw [us_at, if_pos rfl]
    have h61 : S1.1 119 6 = 0 := by show (us _ _ _ _).1 119 6 = _; rw [us_at, if_neg (by decide)]; exact h6
    rw [fX7_text_86, ob_119, q_cv, m_fine1 h6, q_cal, q_vi, if_neg (by decide), ob_119, q_cv, hh, q_cal, q_vi, pPolys]
    by_cases k0 : kd b n (sk b n a) = 0
    · rw [if_pos k0, if_pos ((cb_m1 hb).mpr k0)]
      exact ⟨A, S1, rfl, grw.rf, frT.of f1, by omega, hC1.2.2.1, h61, hC1.2.2.2.1⟩
    rw [if_neg k0, if_neg (fun h => k0 ((cb_m1 hb).mp h)), gi_119_4, q_bs]
    rw [show (us S 119 4 (nI (sk b n a))).1 119 4 = nI (sk b n a) from h41, ob_119, q_cv]
    have ht := m_word (A := A) (j := 2) (mt_of hC1) h41 hpn h61 (by decide)
    rw [hid, usus, usus] at ht
    rw [show fX7_takes 119 (UInt32.ofNat 2) (qH A (us S 119 4 (nI (sk b n a)))) = _ from ht]
    -- behind a fault
    have bad : ∀ A' S' (e : Nat × Nat), 0 < e.1 ∧ e.1 < 5 → S'.1 119 6 = nI e.1 → fX7_text_86 K 119 (qH A' S') = fX7_text_132 119 (qH A' S') := by
      intro A' S' e he q6
      obtain ⟨K, rfl⟩ : ∃ k', K = k' + 1 := ⟨K - 1, by omega⟩
      rw [fX7_text_86, ob_119, q_cv, m_fine0 q6 he.1 he.2, q_cal, q_vi, if_pos rfl]
    by_cases k3 : kd b n (sk b n a) = 3
    · have hlt := kd_lt k0
      have hg9 : sk b n a < en b n (sk b n a) := en_gt
      let S2 := us S 119 4 (nI (en b n (sk b n a)))
      have f2 : frm A.1 S S2 := frm.us (by decide)
      have h42 : S2.1 119 4 = nI (en b n (sk b n a)) := by show (us _ _ _ _).1 119 4 = _; rw [us_at, if_pos rfl]
      have h62 : S2.1 119 6 = 0 := by show (us _ _ _ _).1 119 6 = _; rw [us_at, if_neg (by decide)]; exact h6
      obtain ⟨A1, S3, b1, b2, b3, b4⟩ := m_rdPoly (A := A) (S := S2) hA (mc_frm hC f2 hA) h42 (en_le hlt) h62 (sk b n a)
      rw [show sk b n (en b n (sk b n a)) = nx b n (sk b n a) from rfl] at b4
      have f3 : frT A.1 S S3 := (frT.of f2).tr b3 (Nat.le_refl _)
      have hT3 : TabM f S3 := tm_gen hf hC.2.2.1 (fun x hx => (f3.1.1 x (by omega)).2) (fun k hk => f3.2.1 k (by omega) (by omega) (by omega) (by omega) (by omega))
      have hle9 := en_le (b := b) hlt
      rw [if_pos (show kd b n (sk b n a) = wcode 2 from k3), if_pos k3, q_cal, q_vi, if_neg (by decide), ob_119, q_cv]
      rw [show fX7_readsPoly 119 (nI (sk b n a)) (qH A (us S 119 4 (nI (en b n (sk b n a))))) = _ from b1, q_cal, q_vn]
      by_cases c6 : c < 6
      · rw [if_pos c6] at b4 ⊢
        cases hres : pS b n f c W (pBr b n f c W 4) (nx b n (sk b n a)) with
        | inl e =>
          rw [hres] at b4
          obtain ⟨y1, y2, y3, y5⟩ := b4
          rw [bad A1 S3 e y1 y2]
          exact ⟨A1, S3, rfl, b2, f3, by omega, hT3, y1, y2, y3⟩
        | inr w =>
          obtain ⟨R, p9⟩ := w
          rw [hres] at b4
          show ∃ A' S', _ ∧ _ ∧ _ ∧ _ ∧ _ ∧ (match (if kd b n p9 = 59 then pPolys b n f k (c + 1) (fun i => if i = c then R else W i) (nx b n p9) else .inl (1, p9)) with | .inl e => _ | .inr w => _)
          have b4' : (match (if kd b n p9 = 59 then (.inr (R, nx b n p9) : PR (RW × Nat)) else .inl (1, p9)) with | .inl e => (0 < e.1 ∧ e.1 < 5) ∧ S3.1 119 6 = nI e.1 ∧ S3.1 119 7 = nI e.2 ∧ 2 * A1.1 ≤ 2 * A.1 + (n - en b n (sk b n a)) + 4 | .inr w => S3.1 119 6 = 0 ∧ MC b n f (c + 1) (fun i => if i = c then w.1 else W i) S3 ∧ ∃ a', S3.1 119 4 = nI a' ∧ a' ≤ n ∧ en b n (sk b n a) < a' ∧ sk b n a' = w.2 ∧ 2 * A1.1 ≤ 2 * A.1 + (a' - en b n (sk b n a))) := b4
          by_cases k59 : kd b n p9 = 59
          · rw [if_pos k59] at b4' ⊢
            obtain ⟨y1, y2, a', y3, y4, y5, y6, y7⟩ := b4'
            have y6' : sk b n a' = nx b n p9 := y6
            obtain ⟨A2, S4, z1, z2, z3, z4, z5, z6⟩ := ih (c + 1) (fun i => if i = c then R else W i) K A1 S3 a' (by omega) (by omega) (Nat.le_trans hA b2.1) y2 y3 y4 y1
            rw [y6'] at z6
            exact ⟨A2, S4, z1, b2.tr z2, f3.tr z3 b2.1, by omega, z5, z6⟩
          · rw [if_neg k59] at b4' ⊢
            obtain ⟨y1, y2, y3, y5⟩ := b4'
            rw [bad A1 S3 (1, p9) y1 y2]
            exact ⟨A1, S3, rfl, b2, f3, by omega, hT3, y1, y2, y3⟩
      · rw [if_neg c6] at b4 ⊢
        obtain ⟨y1, y2, y3, y5⟩ := b4
        rw [bad A1 S3 (3, sk b n a) y1 y2]
        exact ⟨A1, S3, rfl, b2, f3, by omega, hT3, y1, y2, y3⟩
    · obtain ⟨w1, w2, w3, w4⟩ := wr_v (S := S1) (k := 1) (p := sk b n a)
      rw [if_neg (show ¬ kd b n (sk b n a) = wcode 2 from k3), if_neg k3, q_cal, q_vi, if_pos rfl, ob_119, q_cv]
      rw [show fX7_wrong 119 1 (nI (sk b n a)) (qH A (us S 119 4 (nI (sk b n a)))) = _ from m_wrong1 (k := 1) (k9 := 1) h61 rfl, q_cal, q_vn]
      have f2 : frm A.1 S (wrS S1 1 (sk b n a)) := f1.tr (wr_frm (by decide)) (Nat.le_refl _)
      rw [show fX7_text_86 K 119 (qH A (wrS (us S 119 4 (nI (sk b n a))) 1 (sk b n a))) = _ from bad A (wrS S1 1 (sk b n a)) (1, sk b n a) (by show 0 < 1 ∧ 1 < 5; decide) w1]
      exact ⟨A, _, rfl, grw.rf, frT.of f2, by omega, (mc_frm hC f2 hA).2.2.1, (by decide : 0 < 1 ∧ 1 < 5), w1, w2⟩
end QTS
