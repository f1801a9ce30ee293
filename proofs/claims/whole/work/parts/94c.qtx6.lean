/-! the component's reader: sums, and all depths -/
section QTH
variable {A : AS} {b : Nat → Nat} {n f c : Nat} {W : Nat → Nat → Nat} {Sf : Nat → Int32 → AH → RR} {d : Nat} {br : Nat → PR (RW × Nat)}
theorem r_sumL (hd : d < 5) (hB : ∀ S p, RC b n f c W S → TP b n S p → rOK b n f A S (Xu d) (107 + 1 + d) (fX2_readBracket Sf 94 (nI d) (qH A S)) (br p)) : ∀ k i K S R p, i + k = 300 → k < K → RC b n f c W S → TP b n S p → rowR f S (95 + 1 + d) R → rOK b n f A S (Xs d) (95 + 1 + d) (fX2_readSum_36 Sf K 94 (nI d) (95 + 1 + d) (101 + 1 + d) (nI i) (qH A S)) (pSL b n f c W br k (R, p)) := by
  intro k
  induction k with
  | zero =>
    intro i K S R p h1 h2 hC hp hR
    obtain ⟨K, rfl⟩ : ∃ k', K = k' + 1 := ⟨K - 1, by omega⟩
    rw [fX2_readSum_36, if_pos (by rw [qlit, nI_leI (by decide) (by omega)]; omega), z_br1]
    exact ⟨S, eqo.rf, rfl, hp, hR, rfl⟩
  | succ k ih =>
    intro i K S R p h1 h2 hC hp hR
    obtain ⟨K, rfl⟩ : ∃ k', K = k' + 1 := ⟨K - 1, by omega⟩
    have hf : f < nF := hC.2.2.2.1.1
    have hq := qz hf
    have hk := kd_256 (n := n) (p := p) hC.2.1
    have ls : qL A (95 + 1 + d) 64 := ql_row (by omega) (ro_ok d hd).1
    have lp : qL A (101 + 1 + d) 64 := ql_row (by omega) (ro_ok d hd).2.1
    have step : ∀ (g : Nat → Nat → Nat) (sg : Nat), sg < 256 → sg ≠ 0 → kd b n p = sg → (∀ x y, x < qF f → y < qF f → g x y < qF f) →
        (∀ (K36 : Nat → Int32 → Nat → Nat → Int32 → AH → RR) (S2 : SS) (R2 : Nat → Nat) (j k' : Nat), j < qF f → S2.1 1 2 = nI (qF f) → TabC f S2 → S2.2.1 (95 + 1 + d) j = nI (R j) → S2.2.1 (101 + 1 + d) j = nI (R2 j) → R j < qF f → R2 j < qF f → fX2_readSum_89 Sf K36 (k' + 1) 94 (nI d) (95 + 1 + d) (101 + 1 + d) (nI i) (nI sg) (nI j) (qH A S2) = fX2_readSum_89 Sf K36 k' 94 (nI d) (95 + 1 + d) (101 + 1 + d) (nI i) (nI sg) (nI (j + 1)) (qH A (ua S2 (95 + 1 + d) j (nI (g (R j) (R2 j)))))) →
        rOK b n f A S (Xs d) (95 + 1 + d) (fX2_readSum_69 Sf (fun p0 p1 p2 p3 p4 h => fX2_readSum_36 Sf K p0 p1 p2 p3 p4 h) 94 (nI d) (95 + 1 + d) (101 + 1 + d) (nI i) (nI sg) (qH A S)) (bnd (pP b n f c W br (nx b n p)) (fun r' => pSL b n f c W br k (fun s => g (R s) (r'.1 s), r'.2))) := by
      intro g sg hsg hsg0 hkd hg hstep
      obtain ⟨S1, a1, a2, a3⟩ := t_step (A := A) hC.1 hC.2.1 hC.2.2.2.2 hp (by omega)
      have hC1 : RC b n f c W S1 := rc_eqo hC a3 (fun x (hx : x = 89) => Or.inl hx)
      unfold fX2_readSum_69
      rw [gr_94_2, q_bs, ob_89, q_cv, a1, q_cal, q_vn, ob_94, q_cv]
      refine r_tr (a3.mo (fun x (hx : x = 89) => Or.inl hx)) (a3.1 94 (by decide)).1 ?_
      obtain ⟨S2, b1, b2⟩ := r_prod hd hB S1 _ hC1 a2
      have b1' : eqo (Xs d) S1 S2 := b1.mo (fun x hx => xp_s hx)
      cases hres : pP b n f c W br (nx b n p) with
      | inl e =>
        rw [hres] at b2
        obtain ⟨b3, b4, b5⟩ := b2
        rw [b5, q_cal, q_vi, if_pos rfl, z_br0]
        exact ⟨S2, b1', b3, b4, rfl⟩
      | inr w =>
        rw [hres] at b2
        obtain ⟨b0, b3, b4, b5⟩ := b2
        have hC2 : RC b n f c W S2 := rc_eqo hC1 b1 (fun x hx => xs_in (xp_s hx))
        have hR2 : rowR f S2 (95 + 1 + d) R := (hR.eqo a3 (fun (h : 95 + 1 + d = 89) => by omega)).eqo b1 (fun h => by unfold Xp at h; omega)
        rw [b5, q_cal, q_vi, if_neg (by decide)]
        refine r_tr b1' b0 ?_
        have hlt : ∀ x, x < qF f → g (R x) (w.1 x) < qF f := fun x hx => hg _ _ (hR2 x hx).2 (b4 x hx).2
        have eT : ∀ j, eqo (fun x => x = 95 + 1 + d) S2 (uA S2 (95 + 1 + d) (fa_fill (fun s => nI (g (R s) (w.1 s))) (S2.2.1 (95 + 1 + d)) j)) := fun j => eqo.uA (X := fun x => x = 95 + 1 + d) rfl
        have hz : S2.1 1 2 = nI (qF f) := hC2.2.2.1.2.2.2.2.2.2.1
        have hl := loopF0 (fun k' j s => fX2_readSum_89 Sf (fun p0 p1 p2 p3 p4 h => fX2_readSum_36 Sf K p0 p1 p2 p3 p4 h) k' 94 (nI d) (95 + 1 + d) (101 + 1 + d) (nI i) (nI sg) (nI j) (qH A s)) (qF f) (fun j => uA S2 (95 + 1 + d) (fa_fill (fun s => nI (g (R s) (w.1 s))) (S2.2.1 (95 + 1 + d)) j)) (fX2_readSum_36 Sf K 94 (nI d) (95 + 1 + d) (101 + 1 + d) (nI (i + 1)) (qH A (uA S2 (95 + 1 + d) (fa_fill (fun s => nI (g (R s) (w.1 s))) (S2.2.1 (95 + 1 + d)) (qF f))))) (by omega) ?_ ?_
        · rw [fa_fill_0, uA_self] at hl
          have hl' : fX2_readSum_89 Sf (fun p0 p1 p2 p3 p4 h => fX2_readSum_36 Sf K p0 p1 p2 p3 p4 h) FU 94 (nI d) (95 + 1 + d) (101 + 1 + d) (nI i) (nI sg) 0 (qH A S2) = _ := hl
          rw [hl']
          refine r_tr ((eT (qF f)).mo (fun x (hx : x = 95 + 1 + d) => by unfold Xs; omega)) rfl ?_
          exact ih (i + 1) K _ _ _ (by omega) (by omega) (rc_eqo hC2 (eT _) (fun x (hx : x = 95 + 1 + d) => by omega)) (b3.eqo (eT _) (fun (h : 89 = 95 + 1 + d) => by omega)) (rowR.fill hlt)
        · intro k' j hj
          have hTab : TabC f (uA S2 (95 + 1 + d) (fa_fill (fun s => nI (g (R s) (w.1 s))) (S2.2.1 (95 + 1 + d)) j)) := hC2.2.2.1.uA (by omega)
          have hrj : (uA S2 (95 + 1 + d) (fa_fill (fun s => nI (g (R s) (w.1 s))) (S2.2.1 (95 + 1 + d)) j)).2.1 (95 + 1 + d) j = nI (R j) := by rw [uA_at, fa_fill_out (Nat.le_refl _)]; exact (hR2 j hj).1
          have hpj : (uA S2 (95 + 1 + d) (fa_fill (fun s => nI (g (R s) (w.1 s))) (S2.2.1 (95 + 1 + d)) j)).2.1 (101 + 1 + d) j = nI (w.1 j) := by rw [uA_ne (by omega)]; exact (b4 j hj).1
          show fX2_readSum_89 Sf _ (k' + 1) 94 (nI d) (95 + 1 + d) (101 + 1 + d) (nI i) (nI sg) (nI j) (qH A _) = _
          rw [hstep _ _ w.1 j k' hj (by rw [uA_s]; exact hz) hTab hrj hpj (hR2 j hj).2 (b4 j hj).2, uaA]
          rw [show upd (fa_fill (fun s => nI (g (R s) (w.1 s))) (S2.2.1 (95 + 1 + d)) j) j (nI (g (R j) (w.1 j))) = fa_fill (fun s => nI (g (R s) (w.1 s))) (S2.2.1 (95 + 1 + d)) (j + 1) from fa_fill_succ (fun s => nI (g (R s) (w.1 s))) (S2.2.1 (95 + 1 + d)) j]
        · intro k'
          show fX2_readSum_89 Sf _ (k' + 1) 94 (nI d) (95 + 1 + d) (101 + 1 + d) (nI i) (nI sg) (nI (qF f)) (qH A _) = _
          rw [fX2_readSum_89, gr_94_3, q_bs, gi_1_2, q_bs, uA_s, hz, if_pos (by rw [nI_leI (by omega) (by omega)]; exact Nat.le_refl _), nI_1]
    rw [fX2_readSum_36, if_neg (by rw [qlit, nI_leI (by decide) (by omega)]; omega), gr_94_2, q_bs, gi_89_1, q_bs, tp_k hp, pSL]
    show rOK b n f A S (Xs d) (95 + 1 + d) _ (if kd b n p = 43 then _ else if kd b n p = 45 then _ else _)
    by_cases c1 : kd b n p = 43
    · rw [if_pos c1, if_pos (by rw [c1]; rfl), c1]
      refine step (ad f) 43 (by decide) (by decide) c1 (fun x y hx hy => ad_lt hf hx hy) ?_
      intro K36 S2 R2 j k' hj hz hTab e1 e2 e3 e4
      rw [fX2_readSum_89, gr_94_3, q_bs, gi_1_2, q_bs, hz, if_neg (by rw [nI_leI (by omega) (by omega)]; omega), if_pos (by decide), q_bs, q_ai ls (by omega), q_bs, e1, q_ai lp (by omega), q_bs, e2, ob_1, q_cv, tc_sum hf hTab e3 e4, q_cal, q_vi]
      unfold fX2_readSum_144
      rw [q_si ls (by omega), q_bs, nI_1]
    · rw [if_neg c1, if_neg (by rw [qlit, nI_eq (by omega) (by decide)]; exact c1)]
      by_cases c2 : kd b n p = 45
      · rw [if_pos c2, if_pos (by rw [c2]; rfl), c2]
        refine step (fun x y => ad f x (ng f y)) 45 (by decide) (by decide) c2 (fun x y hx hy => ad_lt hf hx (ng_lt hf hy)) ?_
        intro K36 S2 R2 j k' hj hz hTab e1 e2 e3 e4
        rw [fX2_readSum_89, gr_94_3, q_bs, gi_1_2, q_bs, hz, if_neg (by rw [nI_leI (by omega) (by omega)]; omega), if_neg (by decide), q_bs, q_ai ls (by omega), q_bs, e1, q_ai lp (by omega), q_bs, e2, ob_1, q_cv, tc_dif hf hTab e3 e4, q_cal, q_vi]
        unfold fX2_readSum_144
        rw [q_si ls (by omega), q_bs, nI_1]
      · rw [if_neg c2, if_neg (by rw [qlit, nI_eq (by omega) (by decide)]; exact c2), z_br1]
        exact ⟨S, eqo.rf, rfl, hp, hR, rfl⟩
theorem r_sumB (hd : d < 5) (hB : ∀ S p, RC b n f c W S → TP b n S p → rOK b n f A S (Xu d) (107 + 1 + d) (fX2_readBracket Sf 94 (nI d) (qH A S)) (br p)) (S : SS) (p : Nat) (hC : RC b n f c W S) (hp : TP b n S p) : rOK b n f A S (Xs d) (95 + 1 + d) (fX2_readSumB Sf 94 (nI d) (qH A S)) (pS b n f c W br p) := by
  have hf : f < nF := hC.2.2.2.1.1
  obtain ⟨S2, b1, b2⟩ := r_prod hd hB S p hC hp
  have b1' : eqo (Xs d) S S2 := b1.mo (fun x hx => xp_s hx)
  unfold fX2_readSumB pS
  rw [ob_94, q_cv]
  cases hres : pP b n f c W br p with
  | inl e =>
    rw [hres] at b2
    obtain ⟨b3, b4, b5⟩ := b2
    rw [b5, q_cal, q_vi, if_pos rfl, z_br0]
    exact ⟨S2, b1', b3, b4, rfl⟩
  | inr w =>
    obtain ⟨R, p9⟩ := w
    rw [hres] at b2
    obtain ⟨b0, b3, b4, b5⟩ := b2
    have hC2 : RC b n f c W S2 := rc_eqo hC b1 (fun x hx => xs_in (xp_s hx))
    rw [b5, q_cal, q_vi, if_neg (by decide), gr_94_5, q_bs, ar_95 (by omega), q_bs, gr_94_6, q_bs, ar_101 (by omega), q_bs, q_cp (ql_row (by omega) (ro_ok d hd).2.1) (ql_row (by omega) (ro_ok d hd).1), q_bs]
    refine r_tr b1' b0 ?_
    have e9 : eqo (fun x => x = 95 + 1 + d) S2 (uA S2 (95 + 1 + d) (fun j => if j < 64 then S2.2.1 (101 + 1 + d) j else S2.2.1 (95 + 1 + d) j)) := eqo.uA (X := fun x => x = 95 + 1 + d) rfl
    refine r_tr (e9.mo (fun x (hx : x = 95 + 1 + d) => by unfold Xs; omega)) rfl ?_
    have h9 := r_sumL hd hB 300 0 FU (uA S2 (95 + 1 + d) (fun j => if j < 64 then S2.2.1 (101 + 1 + d) j else S2.2.1 (95 + 1 + d) j)) R p9 (by omega) (by unfold FU; omega) (rc_eqo hC2 e9 (fun x (hx : x = 95 + 1 + d) => by omega)) (b3.eqo e9 (fun (h : 89 = 95 + 1 + d) => by omega)) (row_cp hf b4)
    rw [show nI 0 = (0 : Int32) from rfl] at h9
    exact h9
theorem r_sum : ∀ r m, r ≤ 4 → r ≤ m → ∀ S p, RC b n f c W S → TP b n S p → rOK b n f A S (Xs (4 - r)) (95 + 1 + (4 - r)) (fX2_readSum (m + 1) 94 (nI (4 - r)) (qH A S)) (pS b n f c W (pBr b n f c W r) p) := by
  intro r
  induction r with
  | zero =>
    intro m _ _ S p hC hp
    exact r_sumB (d := 4) (Sf := fX2_readSum m) (by decide) (fun S p hC hp => r_deep S p hC hp) S p hC hp
  | succ r ih =>
    intro m h1 h2 S p hC hp
    obtain ⟨m, rfl⟩ : ∃ k', m = k' + 1 := ⟨m - 1, by omega⟩
    refine r_sumB (d := 4 - (r + 1)) (Sf := fX2_readSum (m + 1)) (by omega) (fun S p hC hp => r_bracket (by omega) (fun S p hC hp => ?_) S p hC hp) S p hC hp
    have h := ih m (by omega) (by omega) S p hC hp
    rw [show 4 - r = 4 - (r + 1) + 1 by omega] at h
    exact h
end QTH
