/-! the component's reader: brackets, units, products, sums -/
theorem tp_k {b : Nat → Nat} {n p : Nat} {S : SS} (h : TP b n S p) : S.1 89 1 = nI (kd b n p) := by
  obtain ⟨c, -, -, -, h, -⟩ := h
  exact h
theorem xu_89 (d : Nat) : Xu d 89 ∧ Xu d 94 := ⟨Or.inl rfl, Or.inr (Or.inl rfl)⟩
section QTG
variable {A : AS} {b : Nat → Nat} {n f c : Nat} {W : Nat → Nat → Nat} {Sf : Nat → Int32 → AH → RR} {d : Nat} {br : Nat → PR (RW × Nat)}
theorem r_bracket {r : Nat} (hd : d < 4) (hS : ∀ S p, RC b n f c W S → TP b n S p → rOK b n f A S (Xs (d + 1)) (95 + 1 + (d + 1)) (Sf 94 (nI (d + 1)) (qH A S)) (pS b n f c W (pBr b n f c W r) p)) (S : SS) (p : Nat) (hC : RC b n f c W S) (hp : TP b n S p) : rOK b n f A S (Xu d) (107 + 1 + d) (fX2_readBracket Sf 94 (nI d) (qH A S)) (pBr b n f c W (r + 1) p) := by
  obtain ⟨h1, h2, h3, h4, h5⟩ := hC
  have hf : f < nF := h4.1
  have hk := kd_256 (n := n) (p := p) h2
  unfold fX2_readBracket
  rw [gr_94_2, q_bs, gi_89_1, q_bs, tp_k hp, pBr]
  by_cases c1 : kd b n p = 40
  · obtain ⟨S1, a1, a2, a3⟩ := t_step (A := A) h1 h2 h5 hp (by omega)
    have hC1 : RC b n f c W S1 := rc_eqo ⟨h1, h2, h3, h4, h5⟩ a3 (fun x (hx : x = 89) => Or.inl hx)
    rw [if_pos c1, if_pos (by rw [c1]; rfl), if_pos (by rw [qlit, nI_ltI (by omega) (by decide)]; exact hd), q_bs, ob_89, q_cv, a1, q_cal, q_vn, ob_94, q_cv, nI_1]
    refine r_tr (a3.mo (fun x (hx : x = 89) => Or.inl hx)) (a3.1 94 (by decide)).1 ?_
    obtain ⟨S2, b1, b2⟩ := hS S1 _ hC1 a2
    have b1' : eqo (Xu d) S1 S2 := b1.mo (fun x hx => by unfold Xs at hx; unfold Xu; omega)
    cases hres : pS b n f c W (pBr b n f c W r) (nx b n p) with
    | inl e =>
      rw [hres] at b2
      obtain ⟨b3, b4, b5⟩ := b2
      rw [b5, q_cal, q_vi, if_pos rfl, z_br0]
      exact ⟨S2, b1', b3, b4, rfl⟩
    | inr w =>
      rw [hres] at b2
      obtain ⟨b0, b3, b4, b5⟩ := b2
      have hC2 : RC b n f c W S2 := rc_eqo hC1 b1 (fun x hx => xs_in hx)
      have hk2 := kd_256 (n := n) (p := w.2) h2
      rw [b5, q_cal, q_vi, if_neg (by decide), gr_94_2, q_bs, gi_89_1, q_bs, tp_k b3]
      show rOK b n f A S1 (Xu d) (107 + 1 + d) _ (if kd b n w.2 = 41 then .inr (w.1, nx b n w.2) else .inl (1, w.2))
      by_cases c2 : kd b n w.2 = 41
      · obtain ⟨S3, d1, d2, d3⟩ := t_step (A := A) h1 h2 hC2.2.2.2.2 b3 (by omega)
        rw [if_pos c2, if_pos (by rw [c2]; rfl), q_bs, ob_89, q_cv, d1, q_cal, q_vn, gr_94_5, q_bs, ar_95 (by omega), q_bs, gr_94_7, q_bs, ar_107 (by omega), q_bs, q_cp (ql_row (by omega) (ro_ok (d + 1) (by omega)).1) (ql_row (by omega) (ro_ok d (by omega)).2.2), q_bs, z_br1]
        have e9 : eqo (fun x => x = 107 + 1 + d) S3 (uA S3 (107 + 1 + d) (fun j => if j < 64 then S3.2.1 (95 + 1 + (d + 1)) j else S3.2.1 (107 + 1 + d) j)) := eqo.uA (X := fun x => x = 107 + 1 + d) rfl
        refine ⟨_, (b1'.tr (d3.mo (fun x (hx : x = 89) => Or.inl hx))).tr (e9.mo (fun x (hx : x = 107 + 1 + d) => by unfold Xu; omega)), (d3.1 94 (by decide)).1.trans b0, d2.eqo e9 (fun (h : 89 = 107 + 1 + d) => by omega), row_cp hf (b4.eqo d3 (fun (h : 95 + 1 + (d + 1) = 89) => by omega)), rfl⟩
      · rw [if_neg c2, if_neg (by rw [qlit, nI_eq (by omega) (by decide)]; exact c2), ob_94, q_cv, r_refuse b3, q_cal, q_vi, z_br0]
        exact r_tr b1' b0 (r_no (k := 1) b3 (xu_89 d).2 rfl)
  · rw [if_neg c1, if_neg (by rw [qlit, nI_eq (by omega) (by decide)]; exact c1), ob_94, q_cv, r_refuse hp, q_cal, q_vi, z_br0]
    exact r_no (k := 1) hp (xu_89 d).2 rfl
theorem r_deep (S : SS) (p : Nat) (hC : RC b n f c W S) (hp : TP b n S p) : rOK b n f A S (Xu 4) (107 + 1 + 4) (fX2_readBracket Sf 94 (nI 4) (qH A S)) (pBr b n f c W 0 p) := by
  have hk := kd_256 (n := n) (p := p) hC.2.1
  unfold fX2_readBracket
  rw [gr_94_2, q_bs, gi_89_1, q_bs, tp_k hp, pBr]
  by_cases c1 : kd b n p = 40
  · rw [if_pos c1, if_pos (by rw [c1]; rfl), if_neg (by decide), ob_94, q_cv, r_refuse hp, q_cal, q_vi, z_br0]
    exact r_no (k := 4) hp (xu_89 4).2 rfl
  · rw [if_neg c1, if_neg (by rw [qlit, nI_eq (by omega) (by decide)]; exact c1), ob_94, q_cv, r_refuse hp, q_cal, q_vi, z_br0]
    exact r_no (k := 1) hp (xu_89 4).2 rfl
theorem r_inner (hd : d < 5) (hB : ∀ S p, RC b n f c W S → TP b n S p → rOK b n f A S (Xu d) (107 + 1 + d) (fX2_readBracket Sf 94 (nI d) (qH A S)) (br p)) (S : SS) (p : Nat) (hC : RC b n f c W S) (hp : TP b n S p) (hk : kd b n p ≠ 0) : rOK b n f A S (Xu d) (107 + 1 + d) (fX2_readInner Sf 94 (nI d) (qH A S)) (bnd (seeN b n (nx b n p) c) (fun j => bnd (br (nx b n (nx b n p))) (fun r => .inr (fun s => W j (r.1 s), r.2)))) := by
  obtain ⟨h1, h2, h3, h4, h5⟩ := hC
  have hf : f < nF := h4.1
  have hq := qz hf
  have hs : isSt 15 = true := by decide
  obtain ⟨S1, a1, a2, a3⟩ := t_step (A := A) h1 h2 h5 hp hk
  have hC1 : RC b n f c W S1 := rc_eqo ⟨h1, h2, h3, h4, h5⟩ a3 (fun x (hx : x = 89) => Or.inl hx)
  have hcn : S1.1 15 2 = nI c := hC1.2.2.2.1.2.2.2.1
  have hc6 : c ≤ 6 := hC1.2.2.2.1.2.2.2.2.1
  refine r_tr (a3.mo (fun x (hx : x = 89) => Or.inl hx)) (a3.1 94 (by decide)).1 ?_
  unfold fX2_readInner
  rw [gr_94_2, q_bs, ob_89, q_cv, a1, q_cal, q_vn, gr_94_4, q_bs, gi_st hs (by decide), q_bs, hcn, ob_94, q_cv]
  rcases r_see (A := A) h2 a2 (lim := c) (m1_int (by omega)) (by omega) with ⟨j, s1, s2, s3, s4, s5⟩ | ⟨k, s1, s2⟩
  · obtain ⟨S2, b1, b2, b3⟩ := t_step (A := A) h1 h2 hC1.2.2.2.2 a2 (by omega)
    have hC2 : RC b n f c W S2 := rc_eqo hC1 b3 (fun x (hx : x = 89) => Or.inl hx)
    rw [s1, s5, q_cal, q_vi, if_neg (by decide), gr_94_4, q_bs, gr_st hs, q_bs, gr_94_2, q_bs, gi_89_3, q_bs, s4, ar_mx hs (by omega), q_bs, q_bs, ob_89, q_cv, b1, q_cal, q_vn, ob_94, q_cv]
    refine r_tr (b3.mo (fun x (hx : x = 89) => Or.inl hx)) (b3.1 94 (by decide)).1 ?_
    show rOK b n f A S2 (Xu d) (107 + 1 + d) _ (bnd (br (nx b n (nx b n p))) (fun r => .inr (fun s => W j (r.1 s), r.2)))
    obtain ⟨S3, d1, d2⟩ := hB S2 _ hC2 b2
    cases hres : br (nx b n (nx b n p)) with
    | inl e =>
      rw [hres] at d2
      obtain ⟨d3, d4, d5⟩ := d2
      rw [d5, q_cal, q_vi, if_pos rfl, z_br0]
      exact ⟨S3, d1, d3, d4, rfl⟩
    | inr w =>
      rw [hres] at d2
      obtain ⟨d0, d3, d4, d5⟩ := d2
      have hC3 : RC b n f c W S3 := rc_eqo hC2 d1 (fun x hx => xs_in (xp_s (xu_p hx)))
      have hz : S3.1 1 2 = nI (qF f) := hC3.2.2.1.2.2.2.2.2.2.1
      have hrj : rowR f S3 (15 + 2 + j) (W j) := hC3.2.2.2.1.2.2.2.2.2 j s2
      rw [d5, q_cal, q_vi, if_neg (by decide), gr_94_7, q_bs, ar_107 (by omega), q_bs]
      have lr : qL A (107 + 1 + d) 64 := ql_row (by omega) (ro_ok d hd).2.2
      have lj : qL A (15 + 2 + j) 64 := ql_st hs (by omega)
      have hlt : ∀ x, x < qF f → W j (w.1 x) < qF f := fun x hx => (hrj _ (d4 x hx).2).2
      have eT : ∀ i, eqo (fun x => x = 107 + 1 + d) S3 (uA S3 (107 + 1 + d) (fa_fill (fun s => nI (W j (w.1 s))) (S3.2.1 (107 + 1 + d)) i)) := fun i => eqo.uA (X := fun x => x = 107 + 1 + d) rfl
      refine ⟨uA S3 (107 + 1 + d) (fa_fill (fun s => nI (W j (w.1 s))) (S3.2.1 (107 + 1 + d)) (qF f)), d1.tr ((eT _).mo (fun x (hx : x = 107 + 1 + d) => by unfold Xu; omega)), d0, d3.eqo (eT _) (fun (h : 89 = 107 + 1 + d) => by omega), rowR.fill hlt, ?_⟩
      have hl := loopF0 (fun k i s => fX2_readInner_68 Sf k 94 (15 + 2 + j) (107 + 1 + d) (nI i) (qH A s)) (qF f) (fun i => uA S3 (107 + 1 + d) (fa_fill (fun s => nI (W j (w.1 s))) (S3.2.1 (107 + 1 + d)) i)) (some (.inl (some (.int 1)), qH A (uA S3 (107 + 1 + d) (fa_fill (fun s => nI (W j (w.1 s))) (S3.2.1 (107 + 1 + d)) (qF f))))) (by omega) ?_ ?_
      · rw [fa_fill_0, uA_self] at hl
        exact hl
      · intro k i hi
        have hl2 := (d4 i hi).2
        have hri : (uA S3 (107 + 1 + d) (fa_fill (fun s => nI (W j (w.1 s))) (S3.2.1 (107 + 1 + d)) i)).2.1 (107 + 1 + d) i = nI (w.1 i) := by rw [uA_at, fa_fill_out (Nat.le_refl _)]; exact (d4 i hi).1
        show fX2_readInner_68 Sf (k + 1) 94 (15 + 2 + j) (107 + 1 + d) (nI i) (qH A _) = _
        rw [fX2_readInner_68, gr_94_3, q_bs, gi_1_2, q_bs, uA_s, hz, if_neg (by rw [nI_leI (by omega) (by omega)]; omega), q_ai lr (by omega), q_bs, hri, q_ai lj (by omega), q_bs, uA_ne (by omega), (hrj _ hl2).1, q_si lr (by omega), q_bs, uaA, nI_1]
        rw [show upd (fa_fill (fun s => nI (W j (w.1 s))) (S3.2.1 (107 + 1 + d)) i) i (nI (W j (w.1 i))) = fa_fill (fun s => nI (W j (w.1 s))) (S3.2.1 (107 + 1 + d)) (i + 1) from fa_fill_succ (fun s => nI (W j (w.1 s))) (S3.2.1 (107 + 1 + d)) i]
      · intro k
        show fX2_readInner_68 Sf (k + 1) 94 (15 + 2 + j) (107 + 1 + d) (nI (qF f)) (qH A _) = _
        rw [fX2_readInner_68, gr_94_3, q_bs, gi_1_2, q_bs, uA_s, hz, if_pos (by rw [nI_leI (by omega) (by omega)]; exact Nat.le_refl _), z_br1]
  · rw [s1, s2, q_cal, q_vi, if_pos rfl, z_br0]
    exact r_no a2 (xu_89 d).2 rfl
theorem r_unit (hd : d < 5) (hB : ∀ S p, RC b n f c W S → TP b n S p → rOK b n f A S (Xu d) (107 + 1 + d) (fX2_readBracket Sf 94 (nI d) (qH A S)) (br p)) (S : SS) (p : Nat) (hC : RC b n f c W S) (hp : TP b n S p) : rOK b n f A S (Xu d) (107 + 1 + d) (fX2_readUnit Sf 94 (nI d) (qH A S)) (pU b n f c W br p) := by
  have h2 := hC.2.1
  have hk := kd_256 (n := n) (p := p) h2
  have lr : qL A (107 + 1 + d) 64 := ql_row (by omega) (ro_ok d hd).2.2
  have mo : ∀ x, (x = 89 ∨ x = 94 ∨ x = 107 + 1 + d) → Xu d x := fun x hx => by unfold Xu; omega
  -- behind the part
  have fin : ∀ (o : RR) (res : PR (RW × Nat)), rOK b n f A S (Xu d) (107 + 1 + d) o res → rOK b n f A S (Xu d) (107 + 1 + d) (zca o fun v5 h6 => zvi v5 fun x7 => fX2_readUnit_122 Sf 94 (nI d) x7 h6) (bnd res (pPw b n f)) := by
    rintro o res ⟨S1, a1, a2⟩
    cases res with
    | inl e =>
      obtain ⟨b3, b4, b5⟩ := a2
      rw [b5, q_cal, q_vi]
      unfold fX2_readUnit_122
      rw [if_pos rfl, z_br0]
      exact ⟨S1, a1, b3, b4, rfl⟩
    | inr w =>
      obtain ⟨b0, b3, b4, b5⟩ := a2
      have hC1 : RC b n f c W S1 := rc_eqo hC a1 (fun x hx => xs_in (xp_s (xu_p hx)))
      have hk2 := kd_256 (n := n) (p := w.2) h2
      rw [b5, q_cal, q_vi]
      unfold fX2_readUnit_122
      rw [if_neg (by decide), gr_94_2, q_bs, gi_89_1, q_bs, tp_k b3]
      show rOK b n f A S (Xu d) (107 + 1 + d) _ (pPw b n f w)
      unfold pPw
      by_cases c1 : kd b n w.2 = 94
      · rw [if_pos c1, if_pos (by rw [c1]; rfl), gr_94_7, q_bs, ar_107 (by omega), q_bs, ob_94, q_cv]
        obtain ⟨S2, d1, d2⟩ := r_power (A := A) hC1 b3 (by omega) b4 lr (by omega) (by omega) (by omega)
        refine r_tr a1 b0 ?_
        cases hres : (bnd (seeN b n (nx b n w.2) 10000) (fun e => (.inr (fun s => pw f (w.1 s) e, nx b n (nx b n w.2)) : PR (RW × Nat)))) with
        | inl e =>
          rw [hres] at d2
          obtain ⟨d3, d4, d5⟩ := d2
          rw [d5, q_cal, q_vi, if_pos rfl, z_br0]
          exact ⟨S2, d1.mo mo, d3, d4, rfl⟩
        | inr w2 =>
          rw [hres] at d2
          obtain ⟨d0, d3, d4, d5⟩ := d2
          rw [d5, q_cal, q_vi, if_neg (by decide), z_br1]
          exact ⟨S2, d1.mo mo, d0, d3, d4, rfl⟩
      · rw [if_neg c1, if_neg (by rw [qlit, nI_eq (by omega) (by decide)]; exact c1), z_br1]
        exact ⟨S1, a1, b0, b3, b4, rfl⟩
  unfold fX2_readUnit pU pUn
  rw [gr_94_2, q_bs, gi_89_1, q_bs, tp_k hp]
  by_cases c1 : kd b n p = 1
  · rw [if_pos c1, if_pos (by rw [c1]; rfl), gr_94_7, q_bs, ar_107 (by omega), q_bs, ob_94, q_cv]
    exact fin _ _ (r_mo mo (r_point hC hp lr (by omega) (by omega) (by omega)))
  rw [if_neg c1, if_neg (by rw [qlit, nI_eq (by omega) (by decide)]; exact c1)]
  by_cases c4 : kd b n p = 4
  · rw [if_pos c4, if_pos (by rw [c4]; rfl), gr_94_7, q_bs, ar_107 (by omega), q_bs, ob_94, q_cv]
    exact fin _ _ (r_mo mo (r_x hC hp (by omega) lr (by omega) (by omega)))
  rw [if_neg c4, if_neg (by rw [qlit, nI_eq (by omega) (by decide)]; exact c4)]
  by_cases c5 : kd b n p = 5
  · rw [if_pos c5, if_pos (by rw [c5]; rfl), ob_94, q_cv]
    exact fin _ _ (r_inner hd hB S p hC hp (by omega))
  rw [if_neg c5, if_neg (by rw [qlit, nI_eq (by omega) (by decide)]; exact c5)]
  by_cases c6 : kd b n p = 6
  · rw [if_pos c6, if_pos (by rw [c6]; rfl), gr_94_7, q_bs, ar_107 (by omega), q_bs, ob_94, q_cv]
    exact fin _ _ (r_mo mo (r_dick hC hp (by omega) lr (by omega) (by omega)))
  rw [if_neg c6, if_neg (by rw [qlit, nI_eq (by omega) (by decide)]; exact c6)]
  by_cases c40 : kd b n p = 40
  · rw [if_pos c40, if_pos (by rw [c40]; rfl), ob_94, q_cv]
    exact fin _ _ (hB S p hC hp)
  rw [if_neg c40, if_neg (by rw [qlit, nI_eq (by omega) (by decide)]; exact c40), ob_94, q_cv]
  exact fin _ _ (r_no (k := 1) hp (xu_89 d).2 (r_refuse hp 1))
theorem r_prodL (hd : d < 5) (hB : ∀ S p, RC b n f c W S → TP b n S p → rOK b n f A S (Xu d) (107 + 1 + d) (fX2_readBracket Sf 94 (nI d) (qH A S)) (br p)) : ∀ k i K S R p, i + k = 300 → k < K → RC b n f c W S → TP b n S p → rowR f S (101 + 1 + d) R → rOK b n f A S (Xp d) (101 + 1 + d) (fX2_readProduct_36 Sf K 94 (nI d) (101 + 1 + d) (107 + 1 + d) (nI i) (qH A S)) (pPL b n f c W br k (R, p)) := by
  intro k
  induction k with
  | zero =>
    intro i K S R p h1 h2 hC hp hR
    obtain ⟨K, rfl⟩ : ∃ k', K = k' + 1 := ⟨K - 1, by omega⟩
    rw [fX2_readProduct_36, if_pos (by rw [qlit, nI_leI (by decide) (by omega)]; omega), z_br1]
    exact ⟨S, eqo.rf, rfl, hp, hR, rfl⟩
  | succ k ih =>
    intro i K S R p h1 h2 hC hp hR
    obtain ⟨K, rfl⟩ : ∃ k', K = k' + 1 := ⟨K - 1, by omega⟩
    have hf : f < nF := hC.2.2.2.1.1
    have hq := qz hf
    have hk := kd_256 (n := n) (p := p) hC.2.1
    rw [fX2_readProduct_36, if_neg (by rw [qlit, nI_leI (by decide) (by omega)]; omega), gr_94_2, q_bs, gi_89_1, q_bs, tp_k hp, pPL]
    show rOK b n f A S (Xp d) (101 + 1 + d) _ (if kd b n p = 42 then _ else _)
    by_cases c1 : kd b n p = 42
    · obtain ⟨S1, a1, a2, a3⟩ := t_step (A := A) hC.1 hC.2.1 hC.2.2.2.2 hp (by omega)
      have hC1 : RC b n f c W S1 := rc_eqo hC a3 (fun x (hx : x = 89) => Or.inl hx)
      rw [if_pos c1, if_pos (by rw [c1]; rfl), q_bs, ob_89, q_cv, a1, q_cal, q_vn, ob_94, q_cv]
      refine r_tr (a3.mo (fun x (hx : x = 89) => Or.inl hx)) (a3.1 94 (by decide)).1 ?_
      show rOK b n f A S1 (Xp d) (101 + 1 + d) _ (bnd (pU b n f c W br (nx b n p)) (fun r' => pPL b n f c W br k (fun s => mu f (R s) (r'.1 s), r'.2)))
      obtain ⟨S2, b1, b2⟩ := r_unit hd hB S1 _ hC1 a2
      have b1' : eqo (Xp d) S1 S2 := b1.mo (fun x hx => xu_p hx)
      cases hres : pU b n f c W br (nx b n p) with
      | inl e =>
        rw [hres] at b2
        obtain ⟨b3, b4, b5⟩ := b2
        rw [b5, q_cal, q_vi, if_pos rfl, z_br0]
        exact ⟨S2, b1', b3, b4, rfl⟩
      | inr w =>
        rw [hres] at b2
        obtain ⟨b0, b3, b4, b5⟩ := b2
        have hC2 : RC b n f c W S2 := rc_eqo hC1 b1 (fun x hx => xs_in (xp_s (xu_p hx)))
        have hR2 : rowR f S2 (101 + 1 + d) R := (hR.eqo a3 (fun (h : 101 + 1 + d = 89) => by omega)).eqo b1 (fun h => by unfold Xu at h; omega)
        rw [b5, q_cal, q_vi, if_neg (by decide)]
        refine r_tr b1' b0 ?_
        have lp : qL A (101 + 1 + d) 64 := ql_row (by omega) (ro_ok d hd).2.1
        have lu : qL A (107 + 1 + d) 64 := ql_row (by omega) (ro_ok d hd).2.2
        have hlt : ∀ x, x < qF f → mu f (R x) (w.1 x) < qF f := fun x hx => mu_lt hf (hR2 x hx).2 (b4 x hx).2
        have eT : ∀ j, eqo (fun x => x = 101 + 1 + d) S2 (uA S2 (101 + 1 + d) (fa_fill (fun s => nI (mu f (R s) (w.1 s))) (S2.2.1 (101 + 1 + d)) j)) := fun j => eqo.uA (X := fun x => x = 101 + 1 + d) rfl
        have mo1 : ∀ x, x = 101 + 1 + d → x = 89 ∨ (94 ≤ x ∧ x ≤ 112) := fun x hx => by omega
        have hz : S2.1 1 2 = nI (qF f) := hC2.2.2.1.2.2.2.2.2.2.1
        have hl := loopF0 (fun k' j s => fX2_readProduct_76 Sf (fun p0 p1 p2 p3 p4 h => fX2_readProduct_36 Sf K p0 p1 p2 p3 p4 h) k' 94 (nI d) (101 + 1 + d) (107 + 1 + d) (nI i) (nI j) (qH A s)) (qF f) (fun j => uA S2 (101 + 1 + d) (fa_fill (fun s => nI (mu f (R s) (w.1 s))) (S2.2.1 (101 + 1 + d)) j)) (fX2_readProduct_36 Sf K 94 (nI d) (101 + 1 + d) (107 + 1 + d) (nI (i + 1)) (qH A (uA S2 (101 + 1 + d) (fa_fill (fun s => nI (mu f (R s) (w.1 s))) (S2.2.1 (101 + 1 + d)) (qF f))))) (by omega) ?_ ?_
        · rw [fa_fill_0, uA_self] at hl
          have hl' : fX2_readProduct_76 Sf (fun p0 p1 p2 p3 p4 h => fX2_readProduct_36 Sf K p0 p1 p2 p3 p4 h) FU 94 (nI d) (101 + 1 + d) (107 + 1 + d) (nI i) 0 (qH A S2) = _ := hl
          rw [hl']
          refine r_tr ((eT (qF f)).mo (fun x (hx : x = 101 + 1 + d) => by unfold Xp; omega)) rfl ?_
          exact ih (i + 1) K _ _ _ (by omega) (by omega) (rc_eqo hC2 (eT _) mo1) (b3.eqo (eT _) (fun (h : 89 = 101 + 1 + d) => by omega)) (rowR.fill hlt)
        · intro k' j hj
          have hTab : TabC f (uA S2 (101 + 1 + d) (fa_fill (fun s => nI (mu f (R s) (w.1 s))) (S2.2.1 (101 + 1 + d)) j)) := hC2.2.2.1.uA (by omega)
          have hrj : (uA S2 (101 + 1 + d) (fa_fill (fun s => nI (mu f (R s) (w.1 s))) (S2.2.1 (101 + 1 + d)) j)).2.1 (101 + 1 + d) j = nI (R j) := by rw [uA_at, fa_fill_out (Nat.le_refl _)]; exact (hR2 j hj).1
          show fX2_readProduct_76 Sf _ (k' + 1) 94 (nI d) (101 + 1 + d) (107 + 1 + d) (nI i) (nI j) (qH A _) = _
          rw [fX2_readProduct_76, gr_94_3, q_bs, gi_1_2, q_bs, uA_s, hz, if_neg (by rw [nI_leI (by omega) (by omega)]; omega), q_bs, q_ai lp (by omega), q_bs, hrj, q_ai lu (by omega), q_bs, uA_ne (by omega), (b4 j hj).1, ob_1, q_cv, tc_mul hf hTab (hR2 j hj).2 (b4 j hj).2, q_cal, q_vi, q_si lp (by omega), q_bs, uaA, nI_1]
          rw [show upd (fa_fill (fun s => nI (mu f (R s) (w.1 s))) (S2.2.1 (101 + 1 + d)) j) j (nI (mu f (R j) (w.1 j))) = fa_fill (fun s => nI (mu f (R s) (w.1 s))) (S2.2.1 (101 + 1 + d)) (j + 1) from fa_fill_succ (fun s => nI (mu f (R s) (w.1 s))) (S2.2.1 (101 + 1 + d)) j]
        · intro k'
          show fX2_readProduct_76 Sf _ (k' + 1) 94 (nI d) (101 + 1 + d) (107 + 1 + d) (nI i) (nI (qF f)) (qH A _) = _
          rw [fX2_readProduct_76, gr_94_3, q_bs, gi_1_2, q_bs, uA_s, hz, if_pos (by rw [nI_leI (by omega) (by omega)]; exact Nat.le_refl _), nI_1]
    · rw [if_neg c1, if_neg (by rw [qlit, nI_eq (by omega) (by decide)]; exact c1), z_br1]
      exact ⟨S, eqo.rf, rfl, hp, hR, rfl⟩
theorem r_prod (hd : d < 5) (hB : ∀ S p, RC b n f c W S → TP b n S p → rOK b n f A S (Xu d) (107 + 1 + d) (fX2_readBracket Sf 94 (nI d) (qH A S)) (br p)) (S : SS) (p : Nat) (hC : RC b n f c W S) (hp : TP b n S p) : rOK b n f A S (Xp d) (101 + 1 + d) (fX2_readProduct Sf 94 (nI d) (qH A S)) (pP b n f c W br p) := by
  have hf : f < nF := hC.2.2.2.1.1
  obtain ⟨S2, b1, b2⟩ := r_unit hd hB S p hC hp
  have b1' : eqo (Xp d) S S2 := b1.mo (fun x hx => xu_p hx)
  unfold fX2_readProduct pP
  rw [ob_94, q_cv]
  cases hres : pU b n f c W br p with
  | inl e =>
    rw [hres] at b2
    obtain ⟨b3, b4, b5⟩ := b2
    rw [b5, q_cal, q_vi, if_pos rfl, z_br0]
    exact ⟨S2, b1', b3, b4, rfl⟩
  | inr w =>
    rw [hres] at b2
    obtain ⟨b0, b3, b4, b5⟩ := b2
    have hC2 : RC b n f c W S2 := rc_eqo hC b1 (fun x hx => xs_in (xp_s (xu_p hx)))
    rw [b5, q_cal, q_vi, if_neg (by decide), gr_94_6, q_bs, ar_101 (by omega), q_bs, gr_94_7, q_bs, ar_107 (by omega), q_bs, q_cp (ql_row (by omega) (ro_ok d hd).2.2) (ql_row (by omega) (ro_ok d hd).2.1), q_bs]
    refine r_tr b1' b0 ?_
    have e9 : eqo (fun x => x = 101 + 1 + d) S2 (uA S2 (101 + 1 + d) (fun j => if j < 64 then S2.2.1 (107 + 1 + d) j else S2.2.1 (101 + 1 + d) j)) := eqo.uA (X := fun x => x = 101 + 1 + d) rfl
    refine r_tr (e9.mo (fun x (hx : x = 101 + 1 + d) => by unfold Xp; omega)) rfl ?_
    exact r_prodL hd hB 300 0 FU _ _ _ (by omega) (by unfold FU; omega) (rc_eqo hC2 e9 (fun x (hx : x = 101 + 1 + d) => by omega)) (b3.eqo e9 (fun (h : 89 = 101 + 1 + d) => by omega)) (row_cp hf b4)
end QTG
