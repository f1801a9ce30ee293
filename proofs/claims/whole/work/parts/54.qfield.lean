/-! the component's field -/
theorem sX0_sum {A : AS} {S : SS} {a b : Nat} (ha : a < 64) (hb : b < 64) : fX0_sum 1 (nI a) (nI b) (qH A S) = some (.inl (some (.int (S.2.1 2 (a * 64 + b)))), qH A S) := by
  unfold fX0_sum
  simp (disch := omega) only [q_cal, q_car, q_cv, q_vi, q_vj, q_vr, q_vn, q_b2, q_let, q_letJ, q_bs, gr_0_0, gr_0_1, gr_0_2, gr_0_3, gr_0_4, gr_0_5, gr_0_6, gr_0_7, gi_0_8, pi_0_8, ob_0, gi_1_0, pi_1_0, gi_1_1, pi_1_1, gi_1_2, pi_1_2, gi_1_3, pi_1_3, gr_1_4, gr_1_5, gr_1_6, gr_1_7, gr_1_8, ob_1, gi_23_0, pi_23_0, gi_23_1, pi_23_1, gr_23_2, ob_23, gi_94_0, pi_94_0, gi_94_1, pi_94_1, gr_94_2, gr_94_3, gr_94_4, gr_94_5, gr_94_6, gr_94_7, ob_94, gi_113_0, pi_113_0, gr_113_1, gr_113_2, gr_113_3, gr_113_4, gr_113_5, ob_113, gi_89_0, pi_89_0, gi_89_1, pi_89_1, gi_89_2, pi_89_2, gi_89_3, pi_89_3, gr_89_4, gr_89_5, gr_89_6, gr_89_7, gi_89_8, pi_89_8, ob_89, gi_119_0, pi_119_0, gr_119_1, gi_119_2, pi_119_2, gi_119_3, pi_119_3, gi_119_4, pi_119_4, gi_119_5, pi_119_5, gi_119_6, pi_119_6, gi_119_7, pi_119_7, gr_119_8, gr_119_9, gr_119_10, gr_119_11, gi_119_12, pi_119_12, gi_119_13, pi_119_13, gi_119_14, pi_119_14, gi_119_15, pi_119_15, gi_119_16, pi_119_16, gr_119_17, gr_119_18, gr_119_19, gr_119_20, gr_119_21, gi_119_22, pi_119_22, gi_119_23, pi_119_23, gr_119_24, gr_119_25, gr_119_26, gr_119_27, ob_119, ai_2, si_2, ai_3, si_3, ai_4, si_4, ai_5, si_5, ai_6, si_6, ai_115, si_115, ai_116, si_116, ai_117, si_117, ai_263, si_263, ai_264, si_264, ai_266, si_266, ai_267, si_267, ai_268, si_268, ai_269, si_269, ai_90, si_90, ai_91, si_91, ai_92, si_92, ai_93, si_93, ai_114, si_114, ai_118, si_118, ai_120, si_120, ai_121, si_121, ai_122, si_122, ai_123, si_123, ai_265, si_265, ar_95, ar_101, ar_107, ar_133, ar_198, ar_124, ar_24, qlit, nI_add, pk_mul, pk_div, q_rem, q_modN, nI_ltI, nI_leI, nI_eq]
theorem sX0_product {A : AS} {S : SS} {a b : Nat} (ha : a < 64) (hb : b < 64) : fX0_product 1 (nI a) (nI b) (qH A S) = some (.inl (some (.int (S.2.1 3 (a * 64 + b)))), qH A S) := by
  unfold fX0_product
  simp (disch := omega) only [q_cal, q_car, q_cv, q_vi, q_vj, q_vr, q_vn, q_b2, q_let, q_letJ, q_bs, gr_0_0, gr_0_1, gr_0_2, gr_0_3, gr_0_4, gr_0_5, gr_0_6, gr_0_7, gi_0_8, pi_0_8, ob_0, gi_1_0, pi_1_0, gi_1_1, pi_1_1, gi_1_2, pi_1_2, gi_1_3, pi_1_3, gr_1_4, gr_1_5, gr_1_6, gr_1_7, gr_1_8, ob_1, gi_23_0, pi_23_0, gi_23_1, pi_23_1, gr_23_2, ob_23, gi_94_0, pi_94_0, gi_94_1, pi_94_1, gr_94_2, gr_94_3, gr_94_4, gr_94_5, gr_94_6, gr_94_7, ob_94, gi_113_0, pi_113_0, gr_113_1, gr_113_2, gr_113_3, gr_113_4, gr_113_5, ob_113, gi_89_0, pi_89_0, gi_89_1, pi_89_1, gi_89_2, pi_89_2, gi_89_3, pi_89_3, gr_89_4, gr_89_5, gr_89_6, gr_89_7, gi_89_8, pi_89_8, ob_89, gi_119_0, pi_119_0, gr_119_1, gi_119_2, pi_119_2, gi_119_3, pi_119_3, gi_119_4, pi_119_4, gi_119_5, pi_119_5, gi_119_6, pi_119_6, gi_119_7, pi_119_7, gr_119_8, gr_119_9, gr_119_10, gr_119_11, gi_119_12, pi_119_12, gi_119_13, pi_119_13, gi_119_14, pi_119_14, gi_119_15, pi_119_15, gi_119_16, pi_119_16, gr_119_17, gr_119_18, gr_119_19, gr_119_20, gr_119_21, gi_119_22, pi_119_22, gi_119_23, pi_119_23, gr_119_24, gr_119_25, gr_119_26, gr_119_27, ob_119, ai_2, si_2, ai_3, si_3, ai_4, si_4, ai_5, si_5, ai_6, si_6, ai_115, si_115, ai_116, si_116, ai_117, si_117, ai_263, si_263, ai_264, si_264, ai_266, si_266, ai_267, si_267, ai_268, si_268, ai_269, si_269, ai_90, si_90, ai_91, si_91, ai_92, si_92, ai_93, si_93, ai_114, si_114, ai_118, si_118, ai_120, si_120, ai_121, si_121, ai_122, si_122, ai_123, si_123, ai_265, si_265, ar_95, ar_101, ar_107, ar_133, ar_198, ar_124, ar_24, qlit, nI_add, pk_mul, pk_div, q_rem, q_modN, nI_ltI, nI_leI, nI_eq]
def adR (f a b : Nat) (S : SS) : Prop := ∀ a' b', a' < qF f → b' < qF f → (a' < a ∨ (a' = a ∧ b' < b) ∨ (a' = 0 ∧ b' = 0)) → S.2.1 2 (a' * 64 + b') = nI (ad f a' b')
theorem q_dm {p a q : Nat} (hp : 2 ≤ p) (ha : a < q) : a / p < q ∧ (a / p < a ∨ (a = 0 ∧ a / p = 0)) := by
  have h1 : a / p ≤ a := Nat.div_le_self a p
  refine ⟨by omega, ?_⟩
  by_cases h : a = 0
  · exact Or.inr ⟨h, by rw [h]; exact Nat.zero_div p⟩
  · exact Or.inl (Nat.div_lt_self (by omega) (by omega))
theorem fs_in {A : AS} {S0 : SS} {f a : Nat} (hf : f < nF) (ha : a < qF f) (K8 : Nat → Int32 → Int32 → Int32 → AH → RR) : ∀ d b k S, b + d = qF f → d < k → (eqo (fun x => x = 2) S0 S ∧ adR f a b S) →
    ∃ S', (eqo (fun x => x = 2) S0 S' ∧ adR f (a + 1) 0 S') ∧ fX0_fillSums_40 K8 k 1 (nI (pF f)) (nI (qF f)) (nI a) (nI b) (qH A S) = K8 1 (nI (pF f)) (nI (qF f)) (nI (a + 1)) (qH A S') := by
  obtain ⟨⟨hp, hp2, -, -, hq, hq2⟩, -, -, h00, -⟩ := fF f hf
  refine loopP (fun k b S => fX0_fillSums_40 K8 k 1 (nI (pF f)) (nI (qF f)) (nI a) (nI b) (qH A S)) (qF f) (fun b S => eqo (fun x => x = 2) S0 S ∧ adR f a b S) (fun x => ∃ S', (eqo (fun x => x = 2) S0 S' ∧ adR f (a + 1) 0 S') ∧ x = K8 1 (nI (pF f)) (nI (qF f)) (nI (a + 1)) (qH A S')) ?_ ?_
  · intro k b S hb ⟨h1, h2⟩
    obtain ⟨d1, d2⟩ := q_dm hp ha
    obtain ⟨d3, d4⟩ := q_dm hp hb
    refine ⟨ua S 2 (a * 64 + b) (nI (ad f a b)), ⟨h1.tr (eqo.ua rfl), ?_⟩, ?_⟩
    · intro a' b' x1 x2 x3
      rw [ua_at]
      by_cases e : a' * 64 + b' = a * 64 + b
      · rw [if_pos e]
        obtain ⟨rfl, rfl⟩ : a' = a ∧ b' = b := by omega
        rfl
      · rw [if_neg e]
        exact h2 a' b' x1 x2 (by omega)
    · have hp0 : ¬ pF f = 0 := by omega
      have hb0 : ¬ qF f ≤ b := by omega
      have hr := h2 (a / pF f) (b / pF f) d1 d3 (by omega)
      have hl : ad f (a / pF f) (b / pF f) * pF f + (a % pF f + b % pF f) % pF f = ad f a b := (ad_rec hf ha hb).symm
      have m1 : a % pF f < 64 := by have := Nat.mod_lt a (show 0 < pF f by omega); omega
      have m2 : b % pF f < 64 := by have := Nat.mod_lt b (show 0 < pF f by omega); omega
      show fX0_fillSums_40 K8 (k + 1) 1 (nI (pF f)) (nI (qF f)) (nI a) (nI b) (qH A S) = _
      rw [fX0_fillSums_40]
      simp (disch := omega) only [q_cal, q_car, q_cv, q_vi, q_vj, q_vr, q_vn, q_b2, q_let, q_letJ, q_bs, gr_0_0, gr_0_1, gr_0_2, gr_0_3, gr_0_4, gr_0_5, gr_0_6, gr_0_7, gi_0_8, pi_0_8, ob_0, gi_1_0, pi_1_0, gi_1_1, pi_1_1, gi_1_2, pi_1_2, gi_1_3, pi_1_3, gr_1_4, gr_1_5, gr_1_6, gr_1_7, gr_1_8, ob_1, gi_23_0, pi_23_0, gi_23_1, pi_23_1, gr_23_2, ob_23, gi_94_0, pi_94_0, gi_94_1, pi_94_1, gr_94_2, gr_94_3, gr_94_4, gr_94_5, gr_94_6, gr_94_7, ob_94, gi_113_0, pi_113_0, gr_113_1, gr_113_2, gr_113_3, gr_113_4, gr_113_5, ob_113, gi_89_0, pi_89_0, gi_89_1, pi_89_1, gi_89_2, pi_89_2, gi_89_3, pi_89_3, gr_89_4, gr_89_5, gr_89_6, gr_89_7, gi_89_8, pi_89_8, ob_89, gi_119_0, pi_119_0, gr_119_1, gi_119_2, pi_119_2, gi_119_3, pi_119_3, gi_119_4, pi_119_4, gi_119_5, pi_119_5, gi_119_6, pi_119_6, gi_119_7, pi_119_7, gr_119_8, gr_119_9, gr_119_10, gr_119_11, gi_119_12, pi_119_12, gi_119_13, pi_119_13, gi_119_14, pi_119_14, gi_119_15, pi_119_15, gi_119_16, pi_119_16, gr_119_17, gr_119_18, gr_119_19, gr_119_20, gr_119_21, gi_119_22, pi_119_22, gi_119_23, pi_119_23, gr_119_24, gr_119_25, gr_119_26, gr_119_27, ob_119, ai_2, si_2, ai_3, si_3, ai_4, si_4, ai_5, si_5, ai_6, si_6, ai_115, si_115, ai_116, si_116, ai_117, si_117, ai_263, si_263, ai_264, si_264, ai_266, si_266, ai_267, si_267, ai_268, si_268, ai_269, si_269, ai_90, si_90, ai_91, si_91, ai_92, si_92, ai_93, si_93, ai_114, si_114, ai_118, si_118, ai_120, si_120, ai_121, si_121, ai_122, si_122, ai_123, si_123, ai_265, si_265, ar_95, ar_101, ar_107, ar_133, ar_198, ar_124, ar_24, qlit, nI_add, pk_mul, pk_div, q_rem, q_modN, nI_ltI, nI_leI, nI_eq, hp0, hb0, sX0_sum, hr, hl, ↓reduceIte]
  · intro k S ⟨h1, h2⟩
    refine ⟨S, ⟨h1, fun a' b' x1 x2 x3 => h2 a' b' x1 x2 (by omega)⟩, ?_⟩
    show fX0_fillSums_40 K8 (k + 1) 1 (nI (pF f)) (nI (qF f)) (nI a) (nI (qF f)) (qH A S) = _
    rw [fX0_fillSums_40]
    simp (disch := omega) only [q_cal, q_car, q_cv, q_vi, q_vj, q_vr, q_vn, q_b2, q_let, q_letJ, q_bs, gr_0_0, gr_0_1, gr_0_2, gr_0_3, gr_0_4, gr_0_5, gr_0_6, gr_0_7, gi_0_8, pi_0_8, ob_0, gi_1_0, pi_1_0, gi_1_1, pi_1_1, gi_1_2, pi_1_2, gi_1_3, pi_1_3, gr_1_4, gr_1_5, gr_1_6, gr_1_7, gr_1_8, ob_1, gi_23_0, pi_23_0, gi_23_1, pi_23_1, gr_23_2, ob_23, gi_94_0, pi_94_0, gi_94_1, pi_94_1, gr_94_2, gr_94_3, gr_94_4, gr_94_5, gr_94_6, gr_94_7, ob_94, gi_113_0, pi_113_0, gr_113_1, gr_113_2, gr_113_3, gr_113_4, gr_113_5, ob_113, gi_89_0, pi_89_0, gi_89_1, pi_89_1, gi_89_2, pi_89_2, gi_89_3, pi_89_3, gr_89_4, gr_89_5, gr_89_6, gr_89_7, gi_89_8, pi_89_8, ob_89, gi_119_0, pi_119_0, gr_119_1, gi_119_2, pi_119_2, gi_119_3, pi_119_3, gi_119_4, pi_119_4, gi_119_5, pi_119_5, gi_119_6, pi_119_6, gi_119_7, pi_119_7, gr_119_8, gr_119_9, gr_119_10, gr_119_11, gi_119_12, pi_119_12, gi_119_13, pi_119_13, gi_119_14, pi_119_14, gi_119_15, pi_119_15, gi_119_16, pi_119_16, gr_119_17, gr_119_18, gr_119_19, gr_119_20, gr_119_21, gi_119_22, pi_119_22, gi_119_23, pi_119_23, gr_119_24, gr_119_25, gr_119_26, gr_119_27, ob_119, ai_2, si_2, ai_3, si_3, ai_4, si_4, ai_5, si_5, ai_6, si_6, ai_115, si_115, ai_116, si_116, ai_117, si_117, ai_263, si_263, ai_264, si_264, ai_266, si_266, ai_267, si_267, ai_268, si_268, ai_269, si_269, ai_90, si_90, ai_91, si_91, ai_92, si_92, ai_93, si_93, ai_114, si_114, ai_118, si_118, ai_120, si_120, ai_121, si_121, ai_122, si_122, ai_123, si_123, ai_265, si_265, ar_95, ar_101, ar_107, ar_133, ar_198, ar_124, ar_24, qlit, nI_add, pk_mul, pk_div, q_rem, q_modN, nI_ltI, nI_leI, nI_eq, Nat.le_refl, ↓reduceIte]

def ngR (f a : Nat) (S : SS) : Prop := ∀ a', a' < qF f → (a' < a ∨ a' = 0) → S.2.1 4 a' = nI (ng f a')
theorem fs_out {A : AS} {S0 : SS} {f : Nat} (hf : f < nF) : ∀ d a k S, a + d = qF f → d < k → (eqo (fun x => x = 2 ∨ x = 4) S0 S ∧ adR f a 0 S ∧ ngR f a S) →
    ∃ S', (eqo (fun x => x = 2 ∨ x = 4) S0 S' ∧ adR f (qF f) 0 S' ∧ ngR f (qF f) S') ∧ fX0_fillSums_8 k 1 (nI (pF f)) (nI (qF f)) (nI a) (qH A S) = some (.inl none, qH A S') := by
  obtain ⟨⟨hp, hp2, -, -, hq, hq2⟩, -, -, h00, n00, -⟩ := fF f hf
  refine loopP (fun k a S => fX0_fillSums_8 k 1 (nI (pF f)) (nI (qF f)) (nI a) (qH A S)) (qF f) (fun a S => eqo (fun x => x = 2 ∨ x = 4) S0 S ∧ adR f a 0 S ∧ ngR f a S) (fun x => ∃ S', (eqo (fun x => x = 2 ∨ x = 4) S0 S' ∧ adR f (qF f) 0 S' ∧ ngR f (qF f) S') ∧ x = some (.inl none, qH A S')) ?_ ?_
  · intro k a S ha ⟨h1, h2, h3⟩
    obtain ⟨d1, d2⟩ := q_dm hp ha
    have hp0 : ¬ pF f = 0 := by omega
    have hb0 : ¬ qF f ≤ a := by omega
    have hr := h3 (a / pF f) d1 (by omega)
    have m1 := Nat.mod_lt a (show 0 < pF f by omega)
    have hl : ng f (a / pF f) * pF f + (pF f - a % pF f) % pF f = ng f a := (ng_rec hf ha).symm
    obtain ⟨S', ⟨g1, g2⟩, g3⟩ := fs_in (A := A) (S0 := ua S 4 a (nI (ng f a))) hf ha (fun p0 p1 p2 p3 h => fX0_fillSums_8 k p0 p1 p2 p3 h) (qF f) 0 FU (ua S 4 a (nI (ng f a))) (by omega) (by unfold FU; omega) ⟨eqo.rf, fun a' b' x1 x2 x3 => by rw [ua_ne (by decide)]; exact h2 a' b' x1 x2 x3⟩
    refine ⟨S', ⟨h1.tr ((eqo.ua (Or.inr rfl)).tr (g1.mo (fun b hb => Or.inl hb))), g2, ?_⟩, ?_⟩
    · intro a' x1 x2
      rw [(g1.1 4 (by decide)).2, ua_at]
      by_cases e : a' = a
      · rw [if_pos e, e]
      · rw [if_neg e]
        exact h3 a' x1 (by omega)
    · show fX0_fillSums_8 (k + 1) 1 (nI (pF f)) (nI (qF f)) (nI a) (qH A S) = _
      rw [fX0_fillSums_8]
      simp (disch := omega) only [q_cal, q_car, q_cv, q_vi, q_vj, q_vr, q_vn, q_b2, q_let, q_letJ, q_bs, gr_0_0, gr_0_1, gr_0_2, gr_0_3, gr_0_4, gr_0_5, gr_0_6, gr_0_7, gi_0_8, pi_0_8, ob_0, gi_1_0, pi_1_0, gi_1_1, pi_1_1, gi_1_2, pi_1_2, gi_1_3, pi_1_3, gr_1_4, gr_1_5, gr_1_6, gr_1_7, gr_1_8, ob_1, gi_23_0, pi_23_0, gi_23_1, pi_23_1, gr_23_2, ob_23, gi_94_0, pi_94_0, gi_94_1, pi_94_1, gr_94_2, gr_94_3, gr_94_4, gr_94_5, gr_94_6, gr_94_7, ob_94, gi_113_0, pi_113_0, gr_113_1, gr_113_2, gr_113_3, gr_113_4, gr_113_5, ob_113, gi_89_0, pi_89_0, gi_89_1, pi_89_1, gi_89_2, pi_89_2, gi_89_3, pi_89_3, gr_89_4, gr_89_5, gr_89_6, gr_89_7, gi_89_8, pi_89_8, ob_89, gi_119_0, pi_119_0, gr_119_1, gi_119_2, pi_119_2, gi_119_3, pi_119_3, gi_119_4, pi_119_4, gi_119_5, pi_119_5, gi_119_6, pi_119_6, gi_119_7, pi_119_7, gr_119_8, gr_119_9, gr_119_10, gr_119_11, gi_119_12, pi_119_12, gi_119_13, pi_119_13, gi_119_14, pi_119_14, gi_119_15, pi_119_15, gi_119_16, pi_119_16, gr_119_17, gr_119_18, gr_119_19, gr_119_20, gr_119_21, gi_119_22, pi_119_22, gi_119_23, pi_119_23, gr_119_24, gr_119_25, gr_119_26, gr_119_27, ob_119, ai_2, si_2, ai_3, si_3, ai_4, si_4, ai_5, si_5, ai_6, si_6, ai_115, si_115, ai_116, si_116, ai_117, si_117, ai_263, si_263, ai_264, si_264, ai_266, si_266, ai_267, si_267, ai_268, si_268, ai_269, si_269, ai_90, si_90, ai_91, si_91, ai_92, si_92, ai_93, si_93, ai_114, si_114, ai_118, si_118, ai_120, si_120, ai_121, si_121, ai_122, si_122, ai_123, si_123, ai_265, si_265, ar_95, ar_101, ar_107, ar_133, ar_198, ar_124, ar_24, qlit, nI_add, pk_mul, pk_div, q_rem, q_modN, nI_ltI, nI_leI, nI_eq, pk_sub, hp0, hb0, hr, hl, ↓reduceIte]
      exact g3
  · intro k S h
    refine ⟨S, h, ?_⟩
    show fX0_fillSums_8 (k + 1) 1 (nI (pF f)) (nI (qF f)) (nI (qF f)) (qH A S) = _
    rw [fX0_fillSums_8]
    simp (disch := omega) only [q_cal, q_car, q_cv, q_vi, q_vj, q_vr, q_vn, q_b2, q_let, q_letJ, q_bs, gr_0_0, gr_0_1, gr_0_2, gr_0_3, gr_0_4, gr_0_5, gr_0_6, gr_0_7, gi_0_8, pi_0_8, ob_0, gi_1_0, pi_1_0, gi_1_1, pi_1_1, gi_1_2, pi_1_2, gi_1_3, pi_1_3, gr_1_4, gr_1_5, gr_1_6, gr_1_7, gr_1_8, ob_1, gi_23_0, pi_23_0, gi_23_1, pi_23_1, gr_23_2, ob_23, gi_94_0, pi_94_0, gi_94_1, pi_94_1, gr_94_2, gr_94_3, gr_94_4, gr_94_5, gr_94_6, gr_94_7, ob_94, gi_113_0, pi_113_0, gr_113_1, gr_113_2, gr_113_3, gr_113_4, gr_113_5, ob_113, gi_89_0, pi_89_0, gi_89_1, pi_89_1, gi_89_2, pi_89_2, gi_89_3, pi_89_3, gr_89_4, gr_89_5, gr_89_6, gr_89_7, gi_89_8, pi_89_8, ob_89, gi_119_0, pi_119_0, gr_119_1, gi_119_2, pi_119_2, gi_119_3, pi_119_3, gi_119_4, pi_119_4, gi_119_5, pi_119_5, gi_119_6, pi_119_6, gi_119_7, pi_119_7, gr_119_8, gr_119_9, gr_119_10, gr_119_11, gi_119_12, pi_119_12, gi_119_13, pi_119_13, gi_119_14, pi_119_14, gi_119_15, pi_119_15, gi_119_16, pi_119_16, gr_119_17, gr_119_18, gr_119_19, gr_119_20, gr_119_21, gi_119_22, pi_119_22, gi_119_23, pi_119_23, gr_119_24, gr_119_25, gr_119_26, gr_119_27, ob_119, ai_2, si_2, ai_3, si_3, ai_4, si_4, ai_5, si_5, ai_6, si_6, ai_115, si_115, ai_116, si_116, ai_117, si_117, ai_263, si_263, ai_264, si_264, ai_266, si_266, ai_267, si_267, ai_268, si_268, ai_269, si_269, ai_90, si_90, ai_91, si_91, ai_92, si_92, ai_93, si_93, ai_114, si_114, ai_118, si_118, ai_120, si_120, ai_121, si_121, ai_122, si_122, ai_123, si_123, ai_265, si_265, ar_95, ar_101, ar_107, ar_133, ar_198, ar_124, ar_24, qlit, nI_add, pk_mul, pk_div, q_rem, q_modN, nI_ltI, nI_leI, nI_eq, Nat.le_refl, ↓reduceIte]
def rsR (f a : Nat) (S : SS) : Prop := ∀ a', a' < qF f → a' < a → S.2.1 6 a' = nI (rs f a')
def adT (f : Nat) (S : SS) : Prop := ∀ a b, a < qF f → b < qF f → S.2.1 2 (a * 64 + b) = nI (ad f a b)
def ngT (f : Nat) (S : SS) : Prop := ∀ a, a < qF f → S.2.1 4 a = nI (ng f a)
theorem fr_out {A : AS} {S0 : SS} {f : Nat} (hf : f < nF) (hA : adT f S0) (hN : ngT f S0) (hD : S0.1 1 3 = nI (dF f)) : ∀ d a k S, a + d = qF f → d < k → (eqo (fun x => x = 6) S0 S ∧ rsR f a S) →
    ∃ S', (eqo (fun x => x = 6) S0 S' ∧ rsR f (qF f) S') ∧ fX0_fillRisen_13 k 1 (nI (pF f)) (nI (qF f)) (nI (qF f / pF f)) (nI a) (qH A S) = some (.inl none, qH A S') := by
  obtain ⟨⟨hp, hp2, -, -, hq, hq2⟩, -, hd, h00, n00, -⟩ := fF f hf
  refine loopP (fun k a S => fX0_fillRisen_13 k 1 (nI (pF f)) (nI (qF f)) (nI (qF f / pF f)) (nI a) (qH A S)) (qF f) (fun a S => eqo (fun x => x = 6) S0 S ∧ rsR f a S) (fun x => ∃ S', (eqo (fun x => x = 6) S0 S' ∧ rsR f (qF f) S') ∧ x = some (.inl none, qH A S')) ?_ ?_
  · intro k a S ha ⟨h1, h2⟩
    have hb0 : ¬ qF f ≤ a := by omega
    have htop : qF f / pF f < 64 := by have := Nat.div_le_self (qF f) (pF f); have := Nat.div_lt_self (show 0 < qF f by omega) (show 1 < pF f by omega); omega
    have htop0 : 0 < qF f / pF f := Nat.div_pos (fF f hf).2.2.2.2.2.2 (by omega)
    refine ⟨ua S 6 a (nI (rs f a)), ⟨h1.tr (eqo.ua rfl), ?_⟩, ?_⟩
    · intro a' x1 x2
      rw [ua_at]
      by_cases e : a' = a
      · rw [if_pos e, e]
      · rw [if_neg e]; exact h2 a' x1 (by omega)
    · show fX0_fillRisen_13 (k + 1) 1 (nI (pF f)) (nI (qF f)) (nI (qF f / pF f)) (nI a) (qH A S) = _
      rw [fX0_fillRisen_13]
      by_cases ht : qF f / pF f ≤ a
      · have hr := h2 (a - qF f / pF f) (by omega) (by omega)
        have hr1 := rs_lt hf (show a - qF f / pF f < qF f by omega)
        have hn1 := ng_lt hf hd
        have hn : S.2.1 4 (dF f) = nI (ng f (dF f)) := by rw [(h1.1 4 (by decide)).2]; exact hN _ hd
        have hs : S.1 1 3 = nI (dF f) := by rw [(h1.1 1 (by decide)).1]; exact hD
        have hl : S.2.1 2 (rs f (a - qF f / pF f) * 64 + ng f (dF f)) = nI (rs f a) := by
          rw [(h1.1 2 (by decide)).2, hA _ _ hr1 hn1]
          rcases rs_hi hf ha with h | h
          · omega
          · rw [h]
        simp (disch := omega) only [q_cal, q_car, q_cv, q_vi, q_vj, q_vr, q_vn, q_b2, q_let, q_letJ, q_bs, gr_0_0, gr_0_1, gr_0_2, gr_0_3, gr_0_4, gr_0_5, gr_0_6, gr_0_7, gi_0_8, pi_0_8, ob_0, gi_1_0, pi_1_0, gi_1_1, pi_1_1, gi_1_2, pi_1_2, gi_1_3, pi_1_3, gr_1_4, gr_1_5, gr_1_6, gr_1_7, gr_1_8, ob_1, gi_23_0, pi_23_0, gi_23_1, pi_23_1, gr_23_2, ob_23, gi_94_0, pi_94_0, gi_94_1, pi_94_1, gr_94_2, gr_94_3, gr_94_4, gr_94_5, gr_94_6, gr_94_7, ob_94, gi_113_0, pi_113_0, gr_113_1, gr_113_2, gr_113_3, gr_113_4, gr_113_5, ob_113, gi_89_0, pi_89_0, gi_89_1, pi_89_1, gi_89_2, pi_89_2, gi_89_3, pi_89_3, gr_89_4, gr_89_5, gr_89_6, gr_89_7, gi_89_8, pi_89_8, ob_89, gi_119_0, pi_119_0, gr_119_1, gi_119_2, pi_119_2, gi_119_3, pi_119_3, gi_119_4, pi_119_4, gi_119_5, pi_119_5, gi_119_6, pi_119_6, gi_119_7, pi_119_7, gr_119_8, gr_119_9, gr_119_10, gr_119_11, gi_119_12, pi_119_12, gi_119_13, pi_119_13, gi_119_14, pi_119_14, gi_119_15, pi_119_15, gi_119_16, pi_119_16, gr_119_17, gr_119_18, gr_119_19, gr_119_20, gr_119_21, gi_119_22, pi_119_22, gi_119_23, pi_119_23, gr_119_24, gr_119_25, gr_119_26, gr_119_27, ob_119, ai_2, si_2, ai_3, si_3, ai_4, si_4, ai_5, si_5, ai_6, si_6, ai_115, si_115, ai_116, si_116, ai_117, si_117, ai_263, si_263, ai_264, si_264, ai_266, si_266, ai_267, si_267, ai_268, si_268, ai_269, si_269, ai_90, si_90, ai_91, si_91, ai_92, si_92, ai_93, si_93, ai_114, si_114, ai_118, si_118, ai_120, si_120, ai_121, si_121, ai_122, si_122, ai_123, si_123, ai_265, si_265, ar_95, ar_101, ar_107, ar_133, ar_198, ar_124, ar_24, qlit, nI_add, pk_mul, pk_div, q_rem, q_modN, nI_ltI, nI_leI, nI_eq, pk_sub, hb0, ht, hr, hn, hs, sX0_sum, hl, fX0_fillRisen_60, ↓reduceIte]
      · have hl : a * pF f = rs f a := by
          rcases rs_lo hf ha with h | h
          · omega
          · exact h.symm
        simp (disch := omega) only [q_cal, q_car, q_cv, q_vi, q_vj, q_vr, q_vn, q_b2, q_let, q_letJ, q_bs, gr_0_0, gr_0_1, gr_0_2, gr_0_3, gr_0_4, gr_0_5, gr_0_6, gr_0_7, gi_0_8, pi_0_8, ob_0, gi_1_0, pi_1_0, gi_1_1, pi_1_1, gi_1_2, pi_1_2, gi_1_3, pi_1_3, gr_1_4, gr_1_5, gr_1_6, gr_1_7, gr_1_8, ob_1, gi_23_0, pi_23_0, gi_23_1, pi_23_1, gr_23_2, ob_23, gi_94_0, pi_94_0, gi_94_1, pi_94_1, gr_94_2, gr_94_3, gr_94_4, gr_94_5, gr_94_6, gr_94_7, ob_94, gi_113_0, pi_113_0, gr_113_1, gr_113_2, gr_113_3, gr_113_4, gr_113_5, ob_113, gi_89_0, pi_89_0, gi_89_1, pi_89_1, gi_89_2, pi_89_2, gi_89_3, pi_89_3, gr_89_4, gr_89_5, gr_89_6, gr_89_7, gi_89_8, pi_89_8, ob_89, gi_119_0, pi_119_0, gr_119_1, gi_119_2, pi_119_2, gi_119_3, pi_119_3, gi_119_4, pi_119_4, gi_119_5, pi_119_5, gi_119_6, pi_119_6, gi_119_7, pi_119_7, gr_119_8, gr_119_9, gr_119_10, gr_119_11, gi_119_12, pi_119_12, gi_119_13, pi_119_13, gi_119_14, pi_119_14, gi_119_15, pi_119_15, gi_119_16, pi_119_16, gr_119_17, gr_119_18, gr_119_19, gr_119_20, gr_119_21, gi_119_22, pi_119_22, gi_119_23, pi_119_23, gr_119_24, gr_119_25, gr_119_26, gr_119_27, ob_119, ai_2, si_2, ai_3, si_3, ai_4, si_4, ai_5, si_5, ai_6, si_6, ai_115, si_115, ai_116, si_116, ai_117, si_117, ai_263, si_263, ai_264, si_264, ai_266, si_266, ai_267, si_267, ai_268, si_268, ai_269, si_269, ai_90, si_90, ai_91, si_91, ai_92, si_92, ai_93, si_93, ai_114, si_114, ai_118, si_118, ai_120, si_120, ai_121, si_121, ai_122, si_122, ai_123, si_123, ai_265, si_265, ar_95, ar_101, ar_107, ar_133, ar_198, ar_124, ar_24, qlit, nI_add, pk_mul, pk_div, q_rem, q_modN, nI_ltI, nI_leI, nI_eq, hb0, ht, hl, fX0_fillRisen_60, ↓reduceIte]
  · intro k S h
    refine ⟨S, h, ?_⟩
    show fX0_fillRisen_13 (k + 1) 1 (nI (pF f)) (nI (qF f)) (nI (qF f / pF f)) (nI (qF f)) (qH A S) = _
    rw [fX0_fillRisen_13]
    simp (disch := omega) only [q_cal, q_car, q_cv, q_vi, q_vj, q_vr, q_vn, q_b2, q_let, q_letJ, q_bs, gr_0_0, gr_0_1, gr_0_2, gr_0_3, gr_0_4, gr_0_5, gr_0_6, gr_0_7, gi_0_8, pi_0_8, ob_0, gi_1_0, pi_1_0, gi_1_1, pi_1_1, gi_1_2, pi_1_2, gi_1_3, pi_1_3, gr_1_4, gr_1_5, gr_1_6, gr_1_7, gr_1_8, ob_1, gi_23_0, pi_23_0, gi_23_1, pi_23_1, gr_23_2, ob_23, gi_94_0, pi_94_0, gi_94_1, pi_94_1, gr_94_2, gr_94_3, gr_94_4, gr_94_5, gr_94_6, gr_94_7, ob_94, gi_113_0, pi_113_0, gr_113_1, gr_113_2, gr_113_3, gr_113_4, gr_113_5, ob_113, gi_89_0, pi_89_0, gi_89_1, pi_89_1, gi_89_2, pi_89_2, gi_89_3, pi_89_3, gr_89_4, gr_89_5, gr_89_6, gr_89_7, gi_89_8, pi_89_8, ob_89, gi_119_0, pi_119_0, gr_119_1, gi_119_2, pi_119_2, gi_119_3, pi_119_3, gi_119_4, pi_119_4, gi_119_5, pi_119_5, gi_119_6, pi_119_6, gi_119_7, pi_119_7, gr_119_8, gr_119_9, gr_119_10, gr_119_11, gi_119_12, pi_119_12, gi_119_13, pi_119_13, gi_119_14, pi_119_14, gi_119_15, pi_119_15, gi_119_16, pi_119_16, gr_119_17, gr_119_18, gr_119_19, gr_119_20, gr_119_21, gi_119_22, pi_119_22, gi_119_23, pi_119_23, gr_119_24, gr_119_25, gr_119_26, gr_119_27, ob_119, ai_2, si_2, ai_3, si_3, ai_4, si_4, ai_5, si_5, ai_6, si_6, ai_115, si_115, ai_116, si_116, ai_117, si_117, ai_263, si_263, ai_264, si_264, ai_266, si_266, ai_267, si_267, ai_268, si_268, ai_269, si_269, ai_90, si_90, ai_91, si_91, ai_92, si_92, ai_93, si_93, ai_114, si_114, ai_118, si_118, ai_120, si_120, ai_121, si_121, ai_122, si_122, ai_123, si_123, ai_265, si_265, ar_95, ar_101, ar_107, ar_133, ar_198, ar_124, ar_24, qlit, nI_add, pk_mul, pk_div, q_rem, q_modN, nI_ltI, nI_leI, nI_eq, Nat.le_refl, ↓reduceIte]
def muR (f a b : Nat) (S : SS) : Prop := ∀ a' b', a' < qF f → b' < qF f → (a' < a ∨ (a' = a ∧ b' < b)) → S.2.1 3 (a' * 64 + b') = nI (mu f a' b')
/-- the inverses of what is done, also of the row in hand once its place is behind -/
def ivR (f a b : Nat) (S : SS) : Prop := ∀ a', a' < qF f → a' ≠ 0 → (a' < a ∨ (a' = a ∧ iv f a < b)) → S.2.1 5 a' = nI (iv f a')
theorem fp_in {A : AS} {S0 : SS} {f a : Nat} (hf : f < nF) (ha : a < qF f) (hA : adT f S0) (hR : rsR f (qF f) S0) (K8 : Nat → Int32 → Int32 → Int32 → AH → RR) : ∀ d b k S, b + d = qF f → d < k → (0 < b ∧ eqo (fun x => x = 3 ∨ x = 5) S0 S ∧ muR f a b S ∧ ivR f a b S) →
    ∃ S', (eqo (fun x => x = 3 ∨ x = 5) S0 S' ∧ muR f (a + 1) 0 S' ∧ ivR f (a + 1) 0 S') ∧ fX0_fillProducts_26 K8 k 1 (nI (pF f)) (nI (qF f)) (nI a) (nI b) (qH A S) = K8 1 (nI (pF f)) (nI (qF f)) (nI (a + 1)) (qH A S') := by
  obtain ⟨⟨hp, hp2, -, -, hq, hq2⟩, -, hd, h00, n00, -⟩ := fF f hf
  refine loopP (fun k b S => fX0_fillProducts_26 K8 k 1 (nI (pF f)) (nI (qF f)) (nI a) (nI b) (qH A S)) (qF f) (fun b S => 0 < b ∧ eqo (fun x => x = 3 ∨ x = 5) S0 S ∧ muR f a b S ∧ ivR f a b S) (fun x => ∃ S', (eqo (fun x => x = 3 ∨ x = 5) S0 S' ∧ muR f (a + 1) 0 S' ∧ ivR f (a + 1) 0 S') ∧ x = K8 1 (nI (pF f)) (nI (qF f)) (nI (a + 1)) (qH A S')) ?_ ?_
  · intro k b S hb ⟨hb1, h1, h2, h3⟩
    have hb0 : ¬ qF f ≤ b := by omega
    have hm := mu_lt hf ha hb
    have hc : fX0_fillProducts_26 K8 (k + 1) 1 (nI (pF f)) (nI (qF f)) (nI a) (nI b) (qH A S) = fX0_fillProducts_82 K8 (fun p0 p1 p2 p3 p4 h => fX0_fillProducts_26 K8 k p0 p1 p2 p3 p4 h) 1 (nI (pF f)) (nI (qF f)) (nI a) (nI b) (nI (mu f a b)) (qH A S) := by
      rw [fX0_fillProducts_26]
      by_cases ht : pF f ≤ b
      · have hp0 : ¬ pF f = 0 := by omega
        obtain ⟨d3, d4⟩ := q_dm hp hb
        have m2 := Nat.mod_lt b (show 0 < pF f by omega)
        have m3 : b % pF f < b := by omega
        have e1 := h2 a (b / pF f) ha d3 (by omega)
        have e2 := h2 a (b % pF f) ha (by omega) (by omega)
        have l1 := mu_lt hf ha d3
        have l2 := mu_lt hf ha (show b % pF f < qF f by omega)
        have e3 : S.2.1 6 (mu f a (b / pF f)) = nI (rs f (mu f a (b / pF f))) := by rw [(h1.1 6 (by decide)).2]; exact hR _ l1 l1
        have l3 := rs_lt hf l1
        have e4 : S.2.1 2 (rs f (mu f a (b / pF f)) * 64 + mu f a (b % pF f)) = nI (mu f a b) := by
          rw [(h1.1 2 (by decide)).2, hA _ _ l3 l2]
          rcases mu_hi hf ha hb with h | h
          · omega
          · rw [h]
        simp (disch := omega) only [q_cal, q_car, q_cv, q_vi, q_vj, q_vr, q_vn, q_b2, q_let, q_letJ, q_bs, gr_0_0, gr_0_1, gr_0_2, gr_0_3, gr_0_4, gr_0_5, gr_0_6, gr_0_7, gi_0_8, pi_0_8, ob_0, gi_1_0, pi_1_0, gi_1_1, pi_1_1, gi_1_2, pi_1_2, gi_1_3, pi_1_3, gr_1_4, gr_1_5, gr_1_6, gr_1_7, gr_1_8, ob_1, gi_23_0, pi_23_0, gi_23_1, pi_23_1, gr_23_2, ob_23, gi_94_0, pi_94_0, gi_94_1, pi_94_1, gr_94_2, gr_94_3, gr_94_4, gr_94_5, gr_94_6, gr_94_7, ob_94, gi_113_0, pi_113_0, gr_113_1, gr_113_2, gr_113_3, gr_113_4, gr_113_5, ob_113, gi_89_0, pi_89_0, gi_89_1, pi_89_1, gi_89_2, pi_89_2, gi_89_3, pi_89_3, gr_89_4, gr_89_5, gr_89_6, gr_89_7, gi_89_8, pi_89_8, ob_89, gi_119_0, pi_119_0, gr_119_1, gi_119_2, pi_119_2, gi_119_3, pi_119_3, gi_119_4, pi_119_4, gi_119_5, pi_119_5, gi_119_6, pi_119_6, gi_119_7, pi_119_7, gr_119_8, gr_119_9, gr_119_10, gr_119_11, gi_119_12, pi_119_12, gi_119_13, pi_119_13, gi_119_14, pi_119_14, gi_119_15, pi_119_15, gi_119_16, pi_119_16, gr_119_17, gr_119_18, gr_119_19, gr_119_20, gr_119_21, gi_119_22, pi_119_22, gi_119_23, pi_119_23, gr_119_24, gr_119_25, gr_119_26, gr_119_27, ob_119, ai_2, si_2, ai_3, si_3, ai_4, si_4, ai_5, si_5, ai_6, si_6, ai_115, si_115, ai_116, si_116, ai_117, si_117, ai_263, si_263, ai_264, si_264, ai_266, si_266, ai_267, si_267, ai_268, si_268, ai_269, si_269, ai_90, si_90, ai_91, si_91, ai_92, si_92, ai_93, si_93, ai_114, si_114, ai_118, si_118, ai_120, si_120, ai_121, si_121, ai_122, si_122, ai_123, si_123, ai_265, si_265, ar_95, ar_101, ar_107, ar_133, ar_198, ar_124, ar_24, qlit, nI_add, pk_mul, pk_div, q_rem, q_modN, nI_ltI, nI_leI, nI_eq, hb0, ht, hp0, sX0_product, sX0_sum, e1, e2, e3, e4, ↓reduceIte]
      · have e1 := h2 a (b - 1) ha (by omega) (by omega)
        have l1 := mu_lt hf ha (show b - 1 < qF f by omega)
        have e4 : S.2.1 2 (mu f a (b - 1) * 64 + a) = nI (mu f a b) := by
          rw [(h1.1 2 (by decide)).2, hA _ _ l1 ha]
          rcases mu_lo hf ha hb with (h | h) | h
          · omega
          · omega
          · rw [h]
        simp (disch := omega) only [q_cal, q_car, q_cv, q_vi, q_vj, q_vr, q_vn, q_b2, q_let, q_letJ, q_bs, gr_0_0, gr_0_1, gr_0_2, gr_0_3, gr_0_4, gr_0_5, gr_0_6, gr_0_7, gi_0_8, pi_0_8, ob_0, gi_1_0, pi_1_0, gi_1_1, pi_1_1, gi_1_2, pi_1_2, gi_1_3, pi_1_3, gr_1_4, gr_1_5, gr_1_6, gr_1_7, gr_1_8, ob_1, gi_23_0, pi_23_0, gi_23_1, pi_23_1, gr_23_2, ob_23, gi_94_0, pi_94_0, gi_94_1, pi_94_1, gr_94_2, gr_94_3, gr_94_4, gr_94_5, gr_94_6, gr_94_7, ob_94, gi_113_0, pi_113_0, gr_113_1, gr_113_2, gr_113_3, gr_113_4, gr_113_5, ob_113, gi_89_0, pi_89_0, gi_89_1, pi_89_1, gi_89_2, pi_89_2, gi_89_3, pi_89_3, gr_89_4, gr_89_5, gr_89_6, gr_89_7, gi_89_8, pi_89_8, ob_89, gi_119_0, pi_119_0, gr_119_1, gi_119_2, pi_119_2, gi_119_3, pi_119_3, gi_119_4, pi_119_4, gi_119_5, pi_119_5, gi_119_6, pi_119_6, gi_119_7, pi_119_7, gr_119_8, gr_119_9, gr_119_10, gr_119_11, gi_119_12, pi_119_12, gi_119_13, pi_119_13, gi_119_14, pi_119_14, gi_119_15, pi_119_15, gi_119_16, pi_119_16, gr_119_17, gr_119_18, gr_119_19, gr_119_20, gr_119_21, gi_119_22, pi_119_22, gi_119_23, pi_119_23, gr_119_24, gr_119_25, gr_119_26, gr_119_27, ob_119, ai_2, si_2, ai_3, si_3, ai_4, si_4, ai_5, si_5, ai_6, si_6, ai_115, si_115, ai_116, si_116, ai_117, si_117, ai_263, si_263, ai_264, si_264, ai_266, si_266, ai_267, si_267, ai_268, si_268, ai_269, si_269, ai_90, si_90, ai_91, si_91, ai_92, si_92, ai_93, si_93, ai_114, si_114, ai_118, si_118, ai_120, si_120, ai_121, si_121, ai_122, si_122, ai_123, si_123, ai_265, si_265, ar_95, ar_101, ar_107, ar_133, ar_198, ar_124, ar_24, qlit, nI_add, pk_mul, pk_div, q_rem, q_modN, nI_ltI, nI_leI, nI_eq, pk_sub, hb0, ht, sX0_product, sX0_sum, e1, e4, ↓reduceIte]
    have hmu : muR f a (b + 1) (ua S 3 (a * 64 + b) (nI (mu f a b))) := by
      intro a' b' x1 x2 x3
      rw [ua_at]
      by_cases e : a' * 64 + b' = a * 64 + b
      · rw [if_pos e]
        obtain ⟨rfl, rfl⟩ : a' = a ∧ b' = b := by omega
        rfl
      · rw [if_neg e]
        exact h2 a' b' x1 x2 (by omega)
    by_cases h9 : mu f a b = 1
    · refine ⟨ua (ua S 3 (a * 64 + b) (nI (mu f a b))) 5 a (nI b), ⟨by omega, h1.tr ((eqo.ua (Or.inl rfl)).tr (eqo.ua (Or.inr rfl))), ?_, ?_⟩, ?_⟩
      · intro a' b' x1 x2 x3
        rw [ua_ne (by decide)]
        exact hmu a' b' x1 x2 x3
      · intro a' x1 x0 x2
        rw [ua_at]
        by_cases e : a' = a
        · subst e
          rw [if_pos rfl]
          have hiv : iv f a' = b := by
            rcases iv_last hf ha hb with (h | h) | h
            · rcases x2 with x2 | x2
              · omega
              · omega
            · exact absurd h x0
            · exact absurd h9 h
          rw [hiv]
        · rw [if_neg e, ua_ne (by decide)]
          exact h3 a' x1 x0 (by omega)
      · show fX0_fillProducts_26 K8 (k + 1) 1 (nI (pF f)) (nI (qF f)) (nI a) (nI b) (qH A S) = _
        rw [hc]
        simp (disch := omega) only [q_cal, q_car, q_cv, q_vi, q_vj, q_vr, q_vn, q_b2, q_let, q_letJ, q_bs, gr_0_0, gr_0_1, gr_0_2, gr_0_3, gr_0_4, gr_0_5, gr_0_6, gr_0_7, gi_0_8, pi_0_8, ob_0, gi_1_0, pi_1_0, gi_1_1, pi_1_1, gi_1_2, pi_1_2, gi_1_3, pi_1_3, gr_1_4, gr_1_5, gr_1_6, gr_1_7, gr_1_8, ob_1, gi_23_0, pi_23_0, gi_23_1, pi_23_1, gr_23_2, ob_23, gi_94_0, pi_94_0, gi_94_1, pi_94_1, gr_94_2, gr_94_3, gr_94_4, gr_94_5, gr_94_6, gr_94_7, ob_94, gi_113_0, pi_113_0, gr_113_1, gr_113_2, gr_113_3, gr_113_4, gr_113_5, ob_113, gi_89_0, pi_89_0, gi_89_1, pi_89_1, gi_89_2, pi_89_2, gi_89_3, pi_89_3, gr_89_4, gr_89_5, gr_89_6, gr_89_7, gi_89_8, pi_89_8, ob_89, gi_119_0, pi_119_0, gr_119_1, gi_119_2, pi_119_2, gi_119_3, pi_119_3, gi_119_4, pi_119_4, gi_119_5, pi_119_5, gi_119_6, pi_119_6, gi_119_7, pi_119_7, gr_119_8, gr_119_9, gr_119_10, gr_119_11, gi_119_12, pi_119_12, gi_119_13, pi_119_13, gi_119_14, pi_119_14, gi_119_15, pi_119_15, gi_119_16, pi_119_16, gr_119_17, gr_119_18, gr_119_19, gr_119_20, gr_119_21, gi_119_22, pi_119_22, gi_119_23, pi_119_23, gr_119_24, gr_119_25, gr_119_26, gr_119_27, ob_119, ai_2, si_2, ai_3, si_3, ai_4, si_4, ai_5, si_5, ai_6, si_6, ai_115, si_115, ai_116, si_116, ai_117, si_117, ai_263, si_263, ai_264, si_264, ai_266, si_266, ai_267, si_267, ai_268, si_268, ai_269, si_269, ai_90, si_90, ai_91, si_91, ai_92, si_92, ai_93, si_93, ai_114, si_114, ai_118, si_118, ai_120, si_120, ai_121, si_121, ai_122, si_122, ai_123, si_123, ai_265, si_265, ar_95, ar_101, ar_107, ar_133, ar_198, ar_124, ar_24, qlit, nI_add, pk_mul, pk_div, q_rem, q_modN, nI_ltI, nI_leI, nI_eq, fX0_fillProducts_82, h9, ↓reduceIte]
    · refine ⟨ua S 3 (a * 64 + b) (nI (mu f a b)), ⟨by omega, h1.tr (eqo.ua (Or.inl rfl)), hmu, ?_⟩, ?_⟩
      · intro a' x1 x0 x2
        rw [ua_ne (by decide)]
        refine h3 a' x1 x0 ?_
        rcases x2 with x2 | ⟨rfl, x2⟩
        · exact Or.inl x2
        · refine Or.inr ⟨rfl, ?_⟩
          by_cases e : iv f a' = b
          · rcases mu_iv hf ha with h | h
            · exact absurd h x0
            · rw [e] at h; exact absurd h h9
          · omega
      · show fX0_fillProducts_26 K8 (k + 1) 1 (nI (pF f)) (nI (qF f)) (nI a) (nI b) (qH A S) = _
        rw [hc]
        simp (disch := omega) only [q_cal, q_car, q_cv, q_vi, q_vj, q_vr, q_vn, q_b2, q_let, q_letJ, q_bs, gr_0_0, gr_0_1, gr_0_2, gr_0_3, gr_0_4, gr_0_5, gr_0_6, gr_0_7, gi_0_8, pi_0_8, ob_0, gi_1_0, pi_1_0, gi_1_1, pi_1_1, gi_1_2, pi_1_2, gi_1_3, pi_1_3, gr_1_4, gr_1_5, gr_1_6, gr_1_7, gr_1_8, ob_1, gi_23_0, pi_23_0, gi_23_1, pi_23_1, gr_23_2, ob_23, gi_94_0, pi_94_0, gi_94_1, pi_94_1, gr_94_2, gr_94_3, gr_94_4, gr_94_5, gr_94_6, gr_94_7, ob_94, gi_113_0, pi_113_0, gr_113_1, gr_113_2, gr_113_3, gr_113_4, gr_113_5, ob_113, gi_89_0, pi_89_0, gi_89_1, pi_89_1, gi_89_2, pi_89_2, gi_89_3, pi_89_3, gr_89_4, gr_89_5, gr_89_6, gr_89_7, gi_89_8, pi_89_8, ob_89, gi_119_0, pi_119_0, gr_119_1, gi_119_2, pi_119_2, gi_119_3, pi_119_3, gi_119_4, pi_119_4, gi_119_5, pi_119_5, gi_119_6, pi_119_6, gi_119_7, pi_119_7, gr_119_8, gr_119_9, gr_119_10, gr_119_11, gi_119_12, pi_119_12, gi_119_13, pi_119_13, gi_119_14, pi_119_14, gi_119_15, pi_119_15, gi_119_16, pi_119_16, gr_119_17, gr_119_18, gr_119_19, gr_119_20, gr_119_21, gi_119_22, pi_119_22, gi_119_23, pi_119_23, gr_119_24, gr_119_25, gr_119_26, gr_119_27, ob_119, ai_2, si_2, ai_3, si_3, ai_4, si_4, ai_5, si_5, ai_6, si_6, ai_115, si_115, ai_116, si_116, ai_117, si_117, ai_263, si_263, ai_264, si_264, ai_266, si_266, ai_267, si_267, ai_268, si_268, ai_269, si_269, ai_90, si_90, ai_91, si_91, ai_92, si_92, ai_93, si_93, ai_114, si_114, ai_118, si_118, ai_120, si_120, ai_121, si_121, ai_122, si_122, ai_123, si_123, ai_265, si_265, ar_95, ar_101, ar_107, ar_133, ar_198, ar_124, ar_24, qlit, nI_add, pk_mul, pk_div, q_rem, q_modN, nI_ltI, nI_leI, nI_eq, fX0_fillProducts_82, h9, ↓reduceIte]
  · intro k S ⟨hb1, h1, h2, h3⟩
    refine ⟨S, ⟨h1, fun a' b' x1 x2 x3 => h2 a' b' x1 x2 (by omega), fun a' x1 x0 x2 => h3 a' x1 x0 ?_⟩, ?_⟩
    · have := iv_lt hf ha
      omega
    · show fX0_fillProducts_26 K8 (k + 1) 1 (nI (pF f)) (nI (qF f)) (nI a) (nI (qF f)) (qH A S) = _
      rw [fX0_fillProducts_26]
      simp (disch := omega) only [q_cal, q_car, q_cv, q_vi, q_vj, q_vr, q_vn, q_b2, q_let, q_letJ, q_bs, gr_0_0, gr_0_1, gr_0_2, gr_0_3, gr_0_4, gr_0_5, gr_0_6, gr_0_7, gi_0_8, pi_0_8, ob_0, gi_1_0, pi_1_0, gi_1_1, pi_1_1, gi_1_2, pi_1_2, gi_1_3, pi_1_3, gr_1_4, gr_1_5, gr_1_6, gr_1_7, gr_1_8, ob_1, gi_23_0, pi_23_0, gi_23_1, pi_23_1, gr_23_2, ob_23, gi_94_0, pi_94_0, gi_94_1, pi_94_1, gr_94_2, gr_94_3, gr_94_4, gr_94_5, gr_94_6, gr_94_7, ob_94, gi_113_0, pi_113_0, gr_113_1, gr_113_2, gr_113_3, gr_113_4, gr_113_5, ob_113, gi_89_0, pi_89_0, gi_89_1, pi_89_1, gi_89_2, pi_89_2, gi_89_3, pi_89_3, gr_89_4, gr_89_5, gr_89_6, gr_89_7, gi_89_8, pi_89_8, ob_89, gi_119_0, pi_119_0, gr_119_1, gi_119_2, pi_119_2, gi_119_3, pi_119_3, gi_119_4, pi_119_4, gi_119_5, pi_119_5, gi_119_6, pi_119_6, gi_119_7, pi_119_7, gr_119_8, gr_119_9, gr_119_10, gr_119_11, gi_119_12, pi_119_12, gi_119_13, pi_119_13, gi_119_14, pi_119_14, gi_119_15, pi_119_15, gi_119_16, pi_119_16, gr_119_17, gr_119_18, gr_119_19, gr_119_20, gr_119_21, gi_119_22, pi_119_22, gi_119_23, pi_119_23, gr_119_24, gr_119_25, gr_119_26, gr_119_27, ob_119, ai_2, si_2, ai_3, si_3, ai_4, si_4, ai_5, si_5, ai_6, si_6, ai_115, si_115, ai_116, si_116, ai_117, si_117, ai_263, si_263, ai_264, si_264, ai_266, si_266, ai_267, si_267, ai_268, si_268, ai_269, si_269, ai_90, si_90, ai_91, si_91, ai_92, si_92, ai_93, si_93, ai_114, si_114, ai_118, si_118, ai_120, si_120, ai_121, si_121, ai_122, si_122, ai_123, si_123, ai_265, si_265, ar_95, ar_101, ar_107, ar_133, ar_198, ar_124, ar_24, qlit, nI_add, pk_mul, pk_div, q_rem, q_modN, nI_ltI, nI_leI, nI_eq, Nat.le_refl, ↓reduceIte]
theorem fp_out {A : AS} {S0 : SS} {f : Nat} (hf : f < nF) (hA : adT f S0) (hR : rsR f (qF f) S0) : ∀ d a k S, a + d = qF f → d < k → (eqo (fun x => x = 3 ∨ x = 5) S0 S ∧ muR f a 0 S ∧ ivR f a 0 S) →
    ∃ S', (eqo (fun x => x = 3 ∨ x = 5) S0 S' ∧ muR f (qF f) 0 S' ∧ ivR f (qF f) 0 S') ∧ fX0_fillProducts_8 k 1 (nI (pF f)) (nI (qF f)) (nI a) (qH A S) = some (.inl none, qH A S') := by
  obtain ⟨⟨hp, hp2, -, -, hq, hq2⟩, -, hd, h00, n00, -⟩ := fF f hf
  refine loopP (fun k a S => fX0_fillProducts_8 k 1 (nI (pF f)) (nI (qF f)) (nI a) (qH A S)) (qF f) (fun a S => eqo (fun x => x = 3 ∨ x = 5) S0 S ∧ muR f a 0 S ∧ ivR f a 0 S) (fun x => ∃ S', (eqo (fun x => x = 3 ∨ x = 5) S0 S' ∧ muR f (qF f) 0 S' ∧ ivR f (qF f) 0 S') ∧ x = some (.inl none, qH A S')) ?_ ?_
  · intro k a S ha ⟨h1, h2, h3⟩
    have hb0 : ¬ qF f ≤ a := by omega
    have h5 : muR f a 1 (ua S 3 (a * 64) 0) := by
      intro a' b' x1 x2 x3
      rw [ua_at]
      by_cases e : a' * 64 + b' = a * 64
      · rw [if_pos e]
        obtain ⟨rfl, rfl⟩ : a' = a ∧ b' = 0 := by omega
        rw [(mu_0 hf x1).1.1.1]
        rfl
      · rw [if_neg e]
        exact h2 a' b' x1 x2 (by omega)
    have h6 : ivR f a 1 (ua S 3 (a * 64) 0) := by
      intro a' x1 x0 x2
      rw [ua_ne (by decide)]
      refine h3 a' x1 x0 ?_
      rcases x2 with x2 | ⟨rfl, x2⟩
      · exact Or.inl x2
      · have h0 : iv f a' = 0 := by omega
        rcases mu_iv hf ha with h | h
        · exact absurd h x0
        · rw [h0, (mu_0 hf ha).1.1.1] at h
          exact absurd h (by decide)
    obtain ⟨S', ⟨g1, g2, g3⟩, g4⟩ := fp_in (A := A) (S0 := S0) hf ha hA hR (fun p0 p1 p2 p3 h => fX0_fillProducts_8 k p0 p1 p2 p3 h) (qF f - 1) 1 FU (ua S 3 (a * 64) 0) (by omega) (by unfold FU; omega) ⟨by decide, h1.tr (eqo.ua (Or.inl rfl)), h5, h6⟩
    refine ⟨S', ⟨g1, g2, g3⟩, ?_⟩
    show fX0_fillProducts_8 (k + 1) 1 (nI (pF f)) (nI (qF f)) (nI a) (qH A S) = _
    rw [fX0_fillProducts_8]
    simp (disch := omega) only [q_cal, q_car, q_cv, q_vi, q_vj, q_vr, q_vn, q_b2, q_let, q_letJ, q_bs, gr_0_0, gr_0_1, gr_0_2, gr_0_3, gr_0_4, gr_0_5, gr_0_6, gr_0_7, gi_0_8, pi_0_8, ob_0, gi_1_0, pi_1_0, gi_1_1, pi_1_1, gi_1_2, pi_1_2, gi_1_3, pi_1_3, gr_1_4, gr_1_5, gr_1_6, gr_1_7, gr_1_8, ob_1, gi_23_0, pi_23_0, gi_23_1, pi_23_1, gr_23_2, ob_23, gi_94_0, pi_94_0, gi_94_1, pi_94_1, gr_94_2, gr_94_3, gr_94_4, gr_94_5, gr_94_6, gr_94_7, ob_94, gi_113_0, pi_113_0, gr_113_1, gr_113_2, gr_113_3, gr_113_4, gr_113_5, ob_113, gi_89_0, pi_89_0, gi_89_1, pi_89_1, gi_89_2, pi_89_2, gi_89_3, pi_89_3, gr_89_4, gr_89_5, gr_89_6, gr_89_7, gi_89_8, pi_89_8, ob_89, gi_119_0, pi_119_0, gr_119_1, gi_119_2, pi_119_2, gi_119_3, pi_119_3, gi_119_4, pi_119_4, gi_119_5, pi_119_5, gi_119_6, pi_119_6, gi_119_7, pi_119_7, gr_119_8, gr_119_9, gr_119_10, gr_119_11, gi_119_12, pi_119_12, gi_119_13, pi_119_13, gi_119_14, pi_119_14, gi_119_15, pi_119_15, gi_119_16, pi_119_16, gr_119_17, gr_119_18, gr_119_19, gr_119_20, gr_119_21, gi_119_22, pi_119_22, gi_119_23, pi_119_23, gr_119_24, gr_119_25, gr_119_26, gr_119_27, ob_119, ai_2, si_2, ai_3, si_3, ai_4, si_4, ai_5, si_5, ai_6, si_6, ai_115, si_115, ai_116, si_116, ai_117, si_117, ai_263, si_263, ai_264, si_264, ai_266, si_266, ai_267, si_267, ai_268, si_268, ai_269, si_269, ai_90, si_90, ai_91, si_91, ai_92, si_92, ai_93, si_93, ai_114, si_114, ai_118, si_118, ai_120, si_120, ai_121, si_121, ai_122, si_122, ai_123, si_123, ai_265, si_265, ar_95, ar_101, ar_107, ar_133, ar_198, ar_124, ar_24, qlit, nI_add, pk_mul, pk_div, q_rem, q_modN, nI_ltI, nI_leI, nI_eq, hb0, ↓reduceIte]
    exact g4
  · intro k S h
    refine ⟨S, h, ?_⟩
    show fX0_fillProducts_8 (k + 1) 1 (nI (pF f)) (nI (qF f)) (nI (qF f)) (qH A S) = _
    rw [fX0_fillProducts_8]
    simp (disch := omega) only [q_cal, q_car, q_cv, q_vi, q_vj, q_vr, q_vn, q_b2, q_let, q_letJ, q_bs, gr_0_0, gr_0_1, gr_0_2, gr_0_3, gr_0_4, gr_0_5, gr_0_6, gr_0_7, gi_0_8, pi_0_8, ob_0, gi_1_0, pi_1_0, gi_1_1, pi_1_1, gi_1_2, pi_1_2, gi_1_3, pi_1_3, gr_1_4, gr_1_5, gr_1_6, gr_1_7, gr_1_8, ob_1, gi_23_0, pi_23_0, gi_23_1, pi_23_1, gr_23_2, ob_23, gi_94_0, pi_94_0, gi_94_1, pi_94_1, gr_94_2, gr_94_3, gr_94_4, gr_94_5, gr_94_6, gr_94_7, ob_94, gi_113_0, pi_113_0, gr_113_1, gr_113_2, gr_113_3, gr_113_4, gr_113_5, ob_113, gi_89_0, pi_89_0, gi_89_1, pi_89_1, gi_89_2, pi_89_2, gi_89_3, pi_89_3, gr_89_4, gr_89_5, gr_89_6, gr_89_7, gi_89_8, pi_89_8, ob_89, gi_119_0, pi_119_0, gr_119_1, gi_119_2, pi_119_2, gi_119_3, pi_119_3, gi_119_4, pi_119_4, gi_119_5, pi_119_5, gi_119_6, pi_119_6, gi_119_7, pi_119_7, gr_119_8, gr_119_9, gr_119_10, gr_119_11, gi_119_12, pi_119_12, gi_119_13, pi_119_13, gi_119_14, pi_119_14, gi_119_15, pi_119_15, gi_119_16, pi_119_16, gr_119_17, gr_119_18, gr_119_19, gr_119_20, gr_119_21, gi_119_22, pi_119_22, gi_119_23, pi_119_23, gr_119_24, gr_119_25, gr_119_26, gr_119_27, ob_119, ai_2, si_2, ai_3, si_3, ai_4, si_4, ai_5, si_5, ai_6, si_6, ai_115, si_115, ai_116, si_116, ai_117, si_117, ai_263, si_263, ai_264, si_264, ai_266, si_266, ai_267, si_267, ai_268, si_268, ai_269, si_269, ai_90, si_90, ai_91, si_91, ai_92, si_92, ai_93, si_93, ai_114, si_114, ai_118, si_118, ai_120, si_120, ai_121, si_121, ai_122, si_122, ai_123, si_123, ai_265, si_265, ar_95, ar_101, ar_107, ar_133, ar_198, ar_124, ar_24, qlit, nI_add, pk_mul, pk_div, q_rem, q_modN, nI_ltI, nI_leI, nI_eq, Nat.le_refl, ↓reduceIte]

/-- the tables of the field f, in the component -/
def TabC (f : Nat) (S : SS) : Prop := adT f S ∧ ngT f S ∧ (∀ a b, a < qF f → b < qF f → S.2.1 3 (a * 64 + b) = nI (mu f a b)) ∧ (∀ a, a < qF f → a ≠ 0 → S.2.1 5 a = nI (iv f a)) ∧ S.1 1 0 = nI (pF f) ∧ S.1 1 1 = nI (mF f) ∧ S.1 1 2 = nI (qF f) ∧ S.1 1 3 = nI (dF f)
theorem TabC.kept {f : Nat} {S S' : SS} (h : TabC f S) (h1 : S'.1 1 = S.1 1) (h2 : S'.2.1 2 = S.2.1 2) (h3 : S'.2.1 3 = S.2.1 3) (h4 : S'.2.1 4 = S.2.1 4) (h5 : S'.2.1 5 = S.2.1 5) : TabC f S' := by
  unfold TabC adT ngT at h ⊢
  rw [h1, h2, h3, h4, h5]
  exact h
theorem TabC.eqo {f : Nat} {S S' : SS} {X : Nat → Prop} (h : TabC f S) (hX : eqo X S S') (hn : ∀ b, 1 ≤ b → b ≤ 5 → ¬ X b) : TabC f S' :=
  h.kept (hX.1 1 (hn 1 (by decide) (by decide))).1 (hX.1 2 (hn 2 (by decide) (by decide))).2 (hX.1 3 (hn 3 (by decide) (by decide))).2 (hX.1 4 (hn 4 (by decide) (by decide))).2 (hX.1 5 (hn 5 (by decide) (by decide))).2
/-- sizes: a field's size is told by prime and power -/
theorem sz_loop {A : AS} {S : SS} {p : Nat} (hp : 2 ≤ p) (hp2 : p ≤ 64) : ∀ d i k v, i + d = 64 → d < k → i ≤ 64 → ∀ m, m ≤ 64 → v = p ^ i → (i = 0 ∨ p ^ (i - 1) ≤ 64) → i ≤ m →
    ∃ w j, fX0_sizeOf_4 k (nI p) (nI m) (nI v) (nI i) (qH A S) = some (.inl (some (.int (nI w))), qH A S) ∧ w = p ^ j ∧ w ≤ 4096 ∧ (j = m ∨ 64 < w) ∧ i ≤ j ∧ j ≤ m := by
  have pp : ∀ i, p ^ (i + 1) = p ^ i * p := fun i => Nat.pow_succ p i
  have p2 : ∀ i, i < p ^ i := fun i => by
    induction i with
    | zero => simp
    | succ i ih => rw [pp]; have : p ^ i * 2 ≤ p ^ i * p := Nat.mul_le_mul_left _ hp; omega
  intro d
  induction d with
  | zero =>
    intro i k v h1 h2 h3 m hm hv h4 h5
    obtain ⟨k, rfl⟩ : ∃ k', k = k' + 1 := ⟨k - 1, by omega⟩
    exfalso
    have e : i - 1 = 63 := by omega
    rcases h4 with h4 | h4
    · omega
    · have := p2 63
      rw [e] at h4
      have h9 : p ^ 63 = p ^ 6 * p ^ 57 := by rw [← Nat.pow_add]
      have h10 : 2 ^ 6 ≤ p ^ 6 := Nat.pow_le_pow_left hp 6
      have h11 : 57 < p ^ 57 := p2 57
      have h12 : 64 * 57 ≤ p ^ 6 * p ^ 57 := Nat.mul_le_mul h10 (by omega)
      omega
  | succ d ih =>
    intro i k v h1 h2 h3 m hm hv h4 h5
    obtain ⟨k, rfl⟩ : ∃ k', k = k' + 1 := ⟨k - 1, by omega⟩
    have hv2 : v ≤ 4096 := by
      rcases h4 with h4 | h4
      · subst h4; rw [hv]; simp
      · have : i = 0 ∨ i = (i - 1) + 1 := by omega
        rcases this with h | h
        · rw [h] at hv; rw [hv]; simp
        · rw [hv, h, pp]
          have := Nat.mul_le_mul h4 hp2
          omega
    rw [fX0_sizeOf_4]
    by_cases c1 : m ≤ i
    · refine ⟨v, i, ?_, hv, hv2, Or.inl (by omega), Nat.le_refl _, h5⟩
      simp (disch := omega) only [q_cal, q_car, q_cv, q_vi, q_vj, q_vr, q_vn, q_b2, q_let, q_letJ, q_bs, gr_0_0, gr_0_1, gr_0_2, gr_0_3, gr_0_4, gr_0_5, gr_0_6, gr_0_7, gi_0_8, pi_0_8, ob_0, gi_1_0, pi_1_0, gi_1_1, pi_1_1, gi_1_2, pi_1_2, gi_1_3, pi_1_3, gr_1_4, gr_1_5, gr_1_6, gr_1_7, gr_1_8, ob_1, gi_23_0, pi_23_0, gi_23_1, pi_23_1, gr_23_2, ob_23, gi_94_0, pi_94_0, gi_94_1, pi_94_1, gr_94_2, gr_94_3, gr_94_4, gr_94_5, gr_94_6, gr_94_7, ob_94, gi_113_0, pi_113_0, gr_113_1, gr_113_2, gr_113_3, gr_113_4, gr_113_5, ob_113, gi_89_0, pi_89_0, gi_89_1, pi_89_1, gi_89_2, pi_89_2, gi_89_3, pi_89_3, gr_89_4, gr_89_5, gr_89_6, gr_89_7, gi_89_8, pi_89_8, ob_89, gi_119_0, pi_119_0, gr_119_1, gi_119_2, pi_119_2, gi_119_3, pi_119_3, gi_119_4, pi_119_4, gi_119_5, pi_119_5, gi_119_6, pi_119_6, gi_119_7, pi_119_7, gr_119_8, gr_119_9, gr_119_10, gr_119_11, gi_119_12, pi_119_12, gi_119_13, pi_119_13, gi_119_14, pi_119_14, gi_119_15, pi_119_15, gi_119_16, pi_119_16, gr_119_17, gr_119_18, gr_119_19, gr_119_20, gr_119_21, gi_119_22, pi_119_22, gi_119_23, pi_119_23, gr_119_24, gr_119_25, gr_119_26, gr_119_27, ob_119, ai_2, si_2, ai_3, si_3, ai_4, si_4, ai_5, si_5, ai_6, si_6, ai_115, si_115, ai_116, si_116, ai_117, si_117, ai_263, si_263, ai_264, si_264, ai_266, si_266, ai_267, si_267, ai_268, si_268, ai_269, si_269, ai_90, si_90, ai_91, si_91, ai_92, si_92, ai_93, si_93, ai_114, si_114, ai_118, si_118, ai_120, si_120, ai_121, si_121, ai_122, si_122, ai_123, si_123, ai_265, si_265, ar_95, ar_101, ar_107, ar_133, ar_198, ar_124, ar_24, qlit, nI_add, pk_mul, pk_div, q_rem, q_modN, nI_ltI, nI_leI, nI_eq, c1, ↓reduceIte]
    · by_cases c2 : 64 < v
      · refine ⟨v, i, ?_, hv, hv2, Or.inr c2, Nat.le_refl _, h5⟩
        simp (disch := omega) only [q_cal, q_car, q_cv, q_vi, q_vj, q_vr, q_vn, q_b2, q_let, q_letJ, q_bs, gr_0_0, gr_0_1, gr_0_2, gr_0_3, gr_0_4, gr_0_5, gr_0_6, gr_0_7, gi_0_8, pi_0_8, ob_0, gi_1_0, pi_1_0, gi_1_1, pi_1_1, gi_1_2, pi_1_2, gi_1_3, pi_1_3, gr_1_4, gr_1_5, gr_1_6, gr_1_7, gr_1_8, ob_1, gi_23_0, pi_23_0, gi_23_1, pi_23_1, gr_23_2, ob_23, gi_94_0, pi_94_0, gi_94_1, pi_94_1, gr_94_2, gr_94_3, gr_94_4, gr_94_5, gr_94_6, gr_94_7, ob_94, gi_113_0, pi_113_0, gr_113_1, gr_113_2, gr_113_3, gr_113_4, gr_113_5, ob_113, gi_89_0, pi_89_0, gi_89_1, pi_89_1, gi_89_2, pi_89_2, gi_89_3, pi_89_3, gr_89_4, gr_89_5, gr_89_6, gr_89_7, gi_89_8, pi_89_8, ob_89, gi_119_0, pi_119_0, gr_119_1, gi_119_2, pi_119_2, gi_119_3, pi_119_3, gi_119_4, pi_119_4, gi_119_5, pi_119_5, gi_119_6, pi_119_6, gi_119_7, pi_119_7, gr_119_8, gr_119_9, gr_119_10, gr_119_11, gi_119_12, pi_119_12, gi_119_13, pi_119_13, gi_119_14, pi_119_14, gi_119_15, pi_119_15, gi_119_16, pi_119_16, gr_119_17, gr_119_18, gr_119_19, gr_119_20, gr_119_21, gi_119_22, pi_119_22, gi_119_23, pi_119_23, gr_119_24, gr_119_25, gr_119_26, gr_119_27, ob_119, ai_2, si_2, ai_3, si_3, ai_4, si_4, ai_5, si_5, ai_6, si_6, ai_115, si_115, ai_116, si_116, ai_117, si_117, ai_263, si_263, ai_264, si_264, ai_266, si_266, ai_267, si_267, ai_268, si_268, ai_269, si_269, ai_90, si_90, ai_91, si_91, ai_92, si_92, ai_93, si_93, ai_114, si_114, ai_118, si_118, ai_120, si_120, ai_121, si_121, ai_122, si_122, ai_123, si_123, ai_265, si_265, ar_95, ar_101, ar_107, ar_133, ar_198, ar_124, ar_24, qlit, nI_add, pk_mul, pk_div, q_rem, q_modN, nI_ltI, nI_leI, nI_eq, c1, c2, ↓reduceIte]
      · obtain ⟨w, j, e1, e2, e3, e4, e5, e6⟩ := ih (i + 1) k (v * p) (by omega) (by omega) (by omega) m hm (by rw [pp, hv]) (Or.inr (by rw [Nat.add_sub_cancel, ← hv]; omega)) (by omega)
        refine ⟨w, j, ?_, e2, e3, e4, by omega, e6⟩
        simp (disch := omega) only [q_cal, q_car, q_cv, q_vi, q_vj, q_vr, q_vn, q_b2, q_let, q_letJ, q_bs, gr_0_0, gr_0_1, gr_0_2, gr_0_3, gr_0_4, gr_0_5, gr_0_6, gr_0_7, gi_0_8, pi_0_8, ob_0, gi_1_0, pi_1_0, gi_1_1, pi_1_1, gi_1_2, pi_1_2, gi_1_3, pi_1_3, gr_1_4, gr_1_5, gr_1_6, gr_1_7, gr_1_8, ob_1, gi_23_0, pi_23_0, gi_23_1, pi_23_1, gr_23_2, ob_23, gi_94_0, pi_94_0, gi_94_1, pi_94_1, gr_94_2, gr_94_3, gr_94_4, gr_94_5, gr_94_6, gr_94_7, ob_94, gi_113_0, pi_113_0, gr_113_1, gr_113_2, gr_113_3, gr_113_4, gr_113_5, ob_113, gi_89_0, pi_89_0, gi_89_1, pi_89_1, gi_89_2, pi_89_2, gi_89_3, pi_89_3, gr_89_4, gr_89_5, gr_89_6, gr_89_7, gi_89_8, pi_89_8, ob_89, gi_119_0, pi_119_0, gr_119_1, gi_119_2, pi_119_2, gi_119_3, pi_119_3, gi_119_4, pi_119_4, gi_119_5, pi_119_5, gi_119_6, pi_119_6, gi_119_7, pi_119_7, gr_119_8, gr_119_9, gr_119_10, gr_119_11, gi_119_12, pi_119_12, gi_119_13, pi_119_13, gi_119_14, pi_119_14, gi_119_15, pi_119_15, gi_119_16, pi_119_16, gr_119_17, gr_119_18, gr_119_19, gr_119_20, gr_119_21, gi_119_22, pi_119_22, gi_119_23, pi_119_23, gr_119_24, gr_119_25, gr_119_26, gr_119_27, ob_119, ai_2, si_2, ai_3, si_3, ai_4, si_4, ai_5, si_5, ai_6, si_6, ai_115, si_115, ai_116, si_116, ai_117, si_117, ai_263, si_263, ai_264, si_264, ai_266, si_266, ai_267, si_267, ai_268, si_268, ai_269, si_269, ai_90, si_90, ai_91, si_91, ai_92, si_92, ai_93, si_93, ai_114, si_114, ai_118, si_118, ai_120, si_120, ai_121, si_121, ai_122, si_122, ai_123, si_123, ai_265, si_265, ar_95, ar_101, ar_107, ar_133, ar_198, ar_124, ar_24, qlit, nI_add, pk_mul, pk_div, q_rem, q_modN, nI_ltI, nI_leI, nI_eq, c1, c2, ↓reduceIte]
        exact e1
theorem sX0_sizeOf {A : AS} {S : SS} {p m : Nat} (hp : 2 ≤ p) (hp2 : p ≤ 64) (hm : m ≤ 64) : ∃ w j, fX0_sizeOf (nI p) (nI m) (qH A S) = some (.inl (some (.int (nI w))), qH A S) ∧ w = p ^ j ∧ w ≤ 4096 ∧ (j = m ∨ 64 < w) ∧ j ≤ m := by
  obtain ⟨w, j, e1, e2, e3, e4, e5, e6⟩ := sz_loop (A := A) (S := S) hp hp2 64 0 FU 1 (by decide) (by decide) (by decide) m hm (by simp) (Or.inl rfl) (Nat.zero_le _)
  exact ⟨w, j, e1, e2, e3, e4, e6⟩
theorem lm_ok : ∀ f, f < nF → (if qF f = 4 then 3 else if qF f = 8 then 3 else if qF f = 9 then 1 else if qF f = 16 then 3 else if qF f = 25 then 2 else if qF f = 27 then 7 else if qF f = 32 then 5 else if qF f = 49 then 1 else if qF f = 64 then 3 else 0) = dF f := by decide +kernel
theorem sX0_least {A : AS} {S : SS} {f : Nat} (hf : f < nF) : fX0_leastModulus (nI (qF f)) (qH A S) = some (.inl (some (.int (nI (dF f)))), qH A S) := by
  obtain ⟨⟨hp, hp2, -, -, hq, hq2⟩, -⟩ := fF f hf
  rw [← lm_ok f hf]
  unfold fX0_leastModulus
  simp (disch := omega) only [q_cal, q_car, q_cv, q_vi, q_vj, q_vr, q_vn, q_b2, q_let, q_letJ, q_bs, gr_0_0, gr_0_1, gr_0_2, gr_0_3, gr_0_4, gr_0_5, gr_0_6, gr_0_7, gi_0_8, pi_0_8, ob_0, gi_1_0, pi_1_0, gi_1_1, pi_1_1, gi_1_2, pi_1_2, gi_1_3, pi_1_3, gr_1_4, gr_1_5, gr_1_6, gr_1_7, gr_1_8, ob_1, gi_23_0, pi_23_0, gi_23_1, pi_23_1, gr_23_2, ob_23, gi_94_0, pi_94_0, gi_94_1, pi_94_1, gr_94_2, gr_94_3, gr_94_4, gr_94_5, gr_94_6, gr_94_7, ob_94, gi_113_0, pi_113_0, gr_113_1, gr_113_2, gr_113_3, gr_113_4, gr_113_5, ob_113, gi_89_0, pi_89_0, gi_89_1, pi_89_1, gi_89_2, pi_89_2, gi_89_3, pi_89_3, gr_89_4, gr_89_5, gr_89_6, gr_89_7, gi_89_8, pi_89_8, ob_89, gi_119_0, pi_119_0, gr_119_1, gi_119_2, pi_119_2, gi_119_3, pi_119_3, gi_119_4, pi_119_4, gi_119_5, pi_119_5, gi_119_6, pi_119_6, gi_119_7, pi_119_7, gr_119_8, gr_119_9, gr_119_10, gr_119_11, gi_119_12, pi_119_12, gi_119_13, pi_119_13, gi_119_14, pi_119_14, gi_119_15, pi_119_15, gi_119_16, pi_119_16, gr_119_17, gr_119_18, gr_119_19, gr_119_20, gr_119_21, gi_119_22, pi_119_22, gi_119_23, pi_119_23, gr_119_24, gr_119_25, gr_119_26, gr_119_27, ob_119, ai_2, si_2, ai_3, si_3, ai_4, si_4, ai_5, si_5, ai_6, si_6, ai_115, si_115, ai_116, si_116, ai_117, si_117, ai_263, si_263, ai_264, si_264, ai_266, si_266, ai_267, si_267, ai_268, si_268, ai_269, si_269, ai_90, si_90, ai_91, si_91, ai_92, si_92, ai_93, si_93, ai_114, si_114, ai_118, si_118, ai_120, si_120, ai_121, si_121, ai_122, si_122, ai_123, si_123, ai_265, si_265, ar_95, ar_101, ar_107, ar_133, ar_198, ar_124, ar_24, qlit, nI_add, pk_mul, pk_div, q_rem, q_modN, nI_ltI, nI_leI, nI_eq]
  split
  · rfl
  split
  · rfl
  split
  · rfl
  split
  · rfl
  split
  · rfl
  split
  · rfl
  split
  · rfl
  split
  · rfl
  split
  · rfl
  rfl
theorem sX0_tune17 {A : AS} {S : SS} {f : Nat} (hf : f < nF) (hz1 : S.2.1 2 0 = nI 0) (hz2 : S.2.1 4 0 = nI 0) : ∃ S', fX0_tune_17 1 (nI (pF f)) (nI (mF f)) (qH A S) = some (.inl none, qH A S') ∧ TabC f S' ∧ eqo (fun x => 1 ≤ x ∧ x ≤ 6) S S' := by
  obtain ⟨⟨hp, hp2, hm, hm2, hq, hq2⟩, hpow, hd, h00, n00, -, hpq⟩ := fF f hf
  obtain ⟨w, j, e1, e2, e3, e4, e5⟩ := sX0_sizeOf (A := A) (S := S) hp (show pF f ≤ 64 by omega) (show mF f ≤ 64 by omega)
  have hw : w = qF f := by
    have hle : w ≤ qF f := by rw [e2, ← hpow]; exact Nat.pow_le_pow_right (by omega) e5
    rcases e4 with e4 | e4
    · rw [e2, e4, hpow]
    · omega
  subst hw
  obtain ⟨S1, ⟨a1, a2, a3⟩, a4⟩ := fs_out (A := A) (S0 := us (us (us (us S 1 0 (nI (pF f))) 1 1 (nI (mF f))) 1 2 (nI (qF f))) 1 3 (nI (dF f))) hf (qF f) 0 FU _ (by omega) (by unfold FU; omega) ⟨eqo.rf, fun a' b' x1 x2 x3 => by
      obtain ⟨rfl, rfl⟩ : a' = 0 ∧ b' = 0 := by omega
      rw [h00]; exact hz1, fun a' x1 x2 => by
      obtain rfl : a' = 0 := by omega
      rw [n00]; exact hz2⟩
  have hA1 : adT f S1 := fun a b x1 x2 => a2 a b x1 x2 (Or.inl x1)
  have hN1 : ngT f S1 := fun a x1 => a3 a x1 (Or.inl x1)
  have hs1 : S1.1 1 = (us (us (us (us S 1 0 (nI (pF f))) 1 1 (nI (mF f))) 1 2 (nI (qF f))) 1 3 (nI (dF f))).1 1 := (a1.1 1 (by decide)).1
  have hD1 : S1.1 1 3 = nI (dF f) := by rw [hs1]; simp [us_at]
  obtain ⟨S2, ⟨b1, b2⟩, b3⟩ := fr_out (A := A) (S0 := S1) hf hA1 hN1 hD1 (qF f) 0 FU S1 (by omega) (by unfold FU; omega) ⟨eqo.rf, fun a' x1 x2 => by omega⟩
  have hA2 : adT f S2 := fun a b x1 x2 => by rw [(b1.1 2 (by decide)).2]; exact hA1 a b x1 x2
  obtain ⟨S3, ⟨c1, c2, c3⟩, c4⟩ := fp_out (A := A) (S0 := S2) hf hA2 b2 (qF f) 0 FU S2 (by omega) (by unfold FU; omega) ⟨eqo.rf, fun a' b' x1 x2 x3 => by omega, fun a' x1 x0 x2 => by omega⟩
  have hp0 : ¬ pF f = 0 := by omega
  have n1 : ¬ pF f < 2 := by omega
  have n2 : ¬ mF f < 1 := by omega
  refine ⟨S3, ?_, ⟨?_, ?_, ?_, ?_, ?_⟩, ?_⟩
  · unfold fX0_tune_17 fX0_fillSums fX0_fillRisen fX0_fillProducts
    simp (disch := omega) only [q_cal, q_car, q_cv, q_vi, q_vj, q_vr, q_vn, q_b2, q_let, q_letJ, q_bs, gr_0_0, gr_0_1, gr_0_2, gr_0_3, gr_0_4, gr_0_5, gr_0_6, gr_0_7, gi_0_8, pi_0_8, ob_0, gi_1_0, pi_1_0, gi_1_1, pi_1_1, gi_1_2, pi_1_2, gi_1_3, pi_1_3, gr_1_4, gr_1_5, gr_1_6, gr_1_7, gr_1_8, ob_1, gi_23_0, pi_23_0, gi_23_1, pi_23_1, gr_23_2, ob_23, gi_94_0, pi_94_0, gi_94_1, pi_94_1, gr_94_2, gr_94_3, gr_94_4, gr_94_5, gr_94_6, gr_94_7, ob_94, gi_113_0, pi_113_0, gr_113_1, gr_113_2, gr_113_3, gr_113_4, gr_113_5, ob_113, gi_89_0, pi_89_0, gi_89_1, pi_89_1, gi_89_2, pi_89_2, gi_89_3, pi_89_3, gr_89_4, gr_89_5, gr_89_6, gr_89_7, gi_89_8, pi_89_8, ob_89, gi_119_0, pi_119_0, gr_119_1, gi_119_2, pi_119_2, gi_119_3, pi_119_3, gi_119_4, pi_119_4, gi_119_5, pi_119_5, gi_119_6, pi_119_6, gi_119_7, pi_119_7, gr_119_8, gr_119_9, gr_119_10, gr_119_11, gi_119_12, pi_119_12, gi_119_13, pi_119_13, gi_119_14, pi_119_14, gi_119_15, pi_119_15, gi_119_16, pi_119_16, gr_119_17, gr_119_18, gr_119_19, gr_119_20, gr_119_21, gi_119_22, pi_119_22, gi_119_23, pi_119_23, gr_119_24, gr_119_25, gr_119_26, gr_119_27, ob_119, ai_2, si_2, ai_3, si_3, ai_4, si_4, ai_5, si_5, ai_6, si_6, ai_115, si_115, ai_116, si_116, ai_117, si_117, ai_263, si_263, ai_264, si_264, ai_266, si_266, ai_267, si_267, ai_268, si_268, ai_269, si_269, ai_90, si_90, ai_91, si_91, ai_92, si_92, ai_93, si_93, ai_114, si_114, ai_118, si_118, ai_120, si_120, ai_121, si_121, ai_122, si_122, ai_123, si_123, ai_265, si_265, ar_95, ar_101, ar_107, ar_133, ar_198, ar_124, ar_24, qlit, nI_add, pk_mul, pk_div, q_rem, q_modN, nI_ltI, nI_leI, nI_eq, e1, n1, n2, hq2, hp0, hp, sX0_least hf, ↓reduceIte]
    rw [a4]
    simp (disch := omega) only [q_cal, q_car, q_cv, q_vi, q_vj, q_vr, q_vn, q_b2, q_let, q_letJ, q_bs, gr_0_0, gr_0_1, gr_0_2, gr_0_3, gr_0_4, gr_0_5, gr_0_6, gr_0_7, gi_0_8, pi_0_8, ob_0, gi_1_0, pi_1_0, gi_1_1, pi_1_1, gi_1_2, pi_1_2, gi_1_3, pi_1_3, gr_1_4, gr_1_5, gr_1_6, gr_1_7, gr_1_8, ob_1, gi_23_0, pi_23_0, gi_23_1, pi_23_1, gr_23_2, ob_23, gi_94_0, pi_94_0, gi_94_1, pi_94_1, gr_94_2, gr_94_3, gr_94_4, gr_94_5, gr_94_6, gr_94_7, ob_94, gi_113_0, pi_113_0, gr_113_1, gr_113_2, gr_113_3, gr_113_4, gr_113_5, ob_113, gi_89_0, pi_89_0, gi_89_1, pi_89_1, gi_89_2, pi_89_2, gi_89_3, pi_89_3, gr_89_4, gr_89_5, gr_89_6, gr_89_7, gi_89_8, pi_89_8, ob_89, gi_119_0, pi_119_0, gr_119_1, gi_119_2, pi_119_2, gi_119_3, pi_119_3, gi_119_4, pi_119_4, gi_119_5, pi_119_5, gi_119_6, pi_119_6, gi_119_7, pi_119_7, gr_119_8, gr_119_9, gr_119_10, gr_119_11, gi_119_12, pi_119_12, gi_119_13, pi_119_13, gi_119_14, pi_119_14, gi_119_15, pi_119_15, gi_119_16, pi_119_16, gr_119_17, gr_119_18, gr_119_19, gr_119_20, gr_119_21, gi_119_22, pi_119_22, gi_119_23, pi_119_23, gr_119_24, gr_119_25, gr_119_26, gr_119_27, ob_119, ai_2, si_2, ai_3, si_3, ai_4, si_4, ai_5, si_5, ai_6, si_6, ai_115, si_115, ai_116, si_116, ai_117, si_117, ai_263, si_263, ai_264, si_264, ai_266, si_266, ai_267, si_267, ai_268, si_268, ai_269, si_269, ai_90, si_90, ai_91, si_91, ai_92, si_92, ai_93, si_93, ai_114, si_114, ai_118, si_118, ai_120, si_120, ai_121, si_121, ai_122, si_122, ai_123, si_123, ai_265, si_265, ar_95, ar_101, ar_107, ar_133, ar_198, ar_124, ar_24, qlit, nI_add, pk_mul, pk_div, q_rem, q_modN, nI_ltI, nI_leI, nI_eq, ↓reduceIte]
    rw [b3]
    simp (disch := omega) only [q_cal, q_car, q_cv, q_vi, q_vj, q_vr, q_vn, q_b2, q_let, q_letJ, q_bs, gr_0_0, gr_0_1, gr_0_2, gr_0_3, gr_0_4, gr_0_5, gr_0_6, gr_0_7, gi_0_8, pi_0_8, ob_0, gi_1_0, pi_1_0, gi_1_1, pi_1_1, gi_1_2, pi_1_2, gi_1_3, pi_1_3, gr_1_4, gr_1_5, gr_1_6, gr_1_7, gr_1_8, ob_1, gi_23_0, pi_23_0, gi_23_1, pi_23_1, gr_23_2, ob_23, gi_94_0, pi_94_0, gi_94_1, pi_94_1, gr_94_2, gr_94_3, gr_94_4, gr_94_5, gr_94_6, gr_94_7, ob_94, gi_113_0, pi_113_0, gr_113_1, gr_113_2, gr_113_3, gr_113_4, gr_113_5, ob_113, gi_89_0, pi_89_0, gi_89_1, pi_89_1, gi_89_2, pi_89_2, gi_89_3, pi_89_3, gr_89_4, gr_89_5, gr_89_6, gr_89_7, gi_89_8, pi_89_8, ob_89, gi_119_0, pi_119_0, gr_119_1, gi_119_2, pi_119_2, gi_119_3, pi_119_3, gi_119_4, pi_119_4, gi_119_5, pi_119_5, gi_119_6, pi_119_6, gi_119_7, pi_119_7, gr_119_8, gr_119_9, gr_119_10, gr_119_11, gi_119_12, pi_119_12, gi_119_13, pi_119_13, gi_119_14, pi_119_14, gi_119_15, pi_119_15, gi_119_16, pi_119_16, gr_119_17, gr_119_18, gr_119_19, gr_119_20, gr_119_21, gi_119_22, pi_119_22, gi_119_23, pi_119_23, gr_119_24, gr_119_25, gr_119_26, gr_119_27, ob_119, ai_2, si_2, ai_3, si_3, ai_4, si_4, ai_5, si_5, ai_6, si_6, ai_115, si_115, ai_116, si_116, ai_117, si_117, ai_263, si_263, ai_264, si_264, ai_266, si_266, ai_267, si_267, ai_268, si_268, ai_269, si_269, ai_90, si_90, ai_91, si_91, ai_92, si_92, ai_93, si_93, ai_114, si_114, ai_118, si_118, ai_120, si_120, ai_121, si_121, ai_122, si_122, ai_123, si_123, ai_265, si_265, ar_95, ar_101, ar_107, ar_133, ar_198, ar_124, ar_24, qlit, nI_add, pk_mul, pk_div, q_rem, q_modN, nI_ltI, nI_leI, nI_eq, ↓reduceIte]
    rw [c4]
    rfl
  · intro a b x1 x2; rw [(c1.1 2 (by decide)).2]; exact hA2 a b x1 x2
  · intro a x1; rw [(c1.1 4 (by decide)).2, (b1.1 4 (by decide)).2]; exact hN1 a x1
  · intro a b x1 x2; exact c2 a b x1 x2 (Or.inl x1)
  · intro a x1 x0; exact c3 a x1 x0 (Or.inl x1)
  · rw [(c1.1 1 (by decide)).1, (b1.1 1 (by decide)).1, hs1]
    simp [us_at]
  · refine eqo.tr ?_ (eqo.tr (a1.mo ?_) (eqo.tr (b1.mo ?_) (c1.mo ?_)))
    · exact eqo.tr (eqo.us (by decide)) (eqo.tr (eqo.us (by decide)) (eqo.tr (eqo.us (by decide)) (eqo.us (by decide))))
    · intro b h; omega
    · intro b h; omega
    · intro b h; omega
theorem sX0_tune {A : AS} {S : SS} {f g : Nat} (hf : f < nF) (hg : g < nF) (hT : TabC g S) : ∃ S', fX0_tune 1 (nI (pF f)) (nI (mF f)) (qH A S) = some (.inl none, qH A S') ∧ TabC f S' ∧ eqo (fun x => 1 ≤ x ∧ x ≤ 6) S S' := by
  obtain ⟨⟨hp, hp2, hm, hm2, hq, hq2⟩, -⟩ := fF f hf
  obtain ⟨⟨gp, gp2, gm, gm2, gq, gq2⟩, -, -, g00, gn00, -⟩ := fF g hg
  have t1 := hT.2.2.2.2.1
  have t2 := hT.2.2.2.2.2.1
  obtain ⟨S', e1, e2, e3⟩ := sX0_tune17 (A := A) (S := S) hf (by have := hT.1 0 0 (by omega) (by omega); rw [g00] at this; exact this) (by have := hT.2.1 0 (by omega); rw [gn00] at this; exact this)
  unfold fX0_tune
  by_cases c1 : pF f = pF g
  · by_cases c2 : mF f = mF g
    · have := fInj f hf g hg c1 c2
      subst this
      refine ⟨S, ?_, hT, eqo.rf⟩
      simp (disch := omega) only [q_cal, q_car, q_cv, q_vi, q_vj, q_vr, q_vn, q_b2, q_let, q_letJ, q_bs, gr_0_0, gr_0_1, gr_0_2, gr_0_3, gr_0_4, gr_0_5, gr_0_6, gr_0_7, gi_0_8, pi_0_8, ob_0, gi_1_0, pi_1_0, gi_1_1, pi_1_1, gi_1_2, pi_1_2, gi_1_3, pi_1_3, gr_1_4, gr_1_5, gr_1_6, gr_1_7, gr_1_8, ob_1, gi_23_0, pi_23_0, gi_23_1, pi_23_1, gr_23_2, ob_23, gi_94_0, pi_94_0, gi_94_1, pi_94_1, gr_94_2, gr_94_3, gr_94_4, gr_94_5, gr_94_6, gr_94_7, ob_94, gi_113_0, pi_113_0, gr_113_1, gr_113_2, gr_113_3, gr_113_4, gr_113_5, ob_113, gi_89_0, pi_89_0, gi_89_1, pi_89_1, gi_89_2, pi_89_2, gi_89_3, pi_89_3, gr_89_4, gr_89_5, gr_89_6, gr_89_7, gi_89_8, pi_89_8, ob_89, gi_119_0, pi_119_0, gr_119_1, gi_119_2, pi_119_2, gi_119_3, pi_119_3, gi_119_4, pi_119_4, gi_119_5, pi_119_5, gi_119_6, pi_119_6, gi_119_7, pi_119_7, gr_119_8, gr_119_9, gr_119_10, gr_119_11, gi_119_12, pi_119_12, gi_119_13, pi_119_13, gi_119_14, pi_119_14, gi_119_15, pi_119_15, gi_119_16, pi_119_16, gr_119_17, gr_119_18, gr_119_19, gr_119_20, gr_119_21, gi_119_22, pi_119_22, gi_119_23, pi_119_23, gr_119_24, gr_119_25, gr_119_26, gr_119_27, ob_119, ai_2, si_2, ai_3, si_3, ai_4, si_4, ai_5, si_5, ai_6, si_6, ai_115, si_115, ai_116, si_116, ai_117, si_117, ai_263, si_263, ai_264, si_264, ai_266, si_266, ai_267, si_267, ai_268, si_268, ai_269, si_269, ai_90, si_90, ai_91, si_91, ai_92, si_92, ai_93, si_93, ai_114, si_114, ai_118, si_118, ai_120, si_120, ai_121, si_121, ai_122, si_122, ai_123, si_123, ai_265, si_265, ar_95, ar_101, ar_107, ar_133, ar_198, ar_124, ar_24, qlit, nI_add, pk_mul, pk_div, q_rem, q_modN, nI_ltI, nI_leI, nI_eq, t1, t2, ↓reduceIte]
    · refine ⟨S', ?_, e2, e3⟩
      simp (disch := omega) only [q_cal, q_car, q_cv, q_vi, q_vj, q_vr, q_vn, q_b2, q_let, q_letJ, q_bs, gr_0_0, gr_0_1, gr_0_2, gr_0_3, gr_0_4, gr_0_5, gr_0_6, gr_0_7, gi_0_8, pi_0_8, ob_0, gi_1_0, pi_1_0, gi_1_1, pi_1_1, gi_1_2, pi_1_2, gi_1_3, pi_1_3, gr_1_4, gr_1_5, gr_1_6, gr_1_7, gr_1_8, ob_1, gi_23_0, pi_23_0, gi_23_1, pi_23_1, gr_23_2, ob_23, gi_94_0, pi_94_0, gi_94_1, pi_94_1, gr_94_2, gr_94_3, gr_94_4, gr_94_5, gr_94_6, gr_94_7, ob_94, gi_113_0, pi_113_0, gr_113_1, gr_113_2, gr_113_3, gr_113_4, gr_113_5, ob_113, gi_89_0, pi_89_0, gi_89_1, pi_89_1, gi_89_2, pi_89_2, gi_89_3, pi_89_3, gr_89_4, gr_89_5, gr_89_6, gr_89_7, gi_89_8, pi_89_8, ob_89, gi_119_0, pi_119_0, gr_119_1, gi_119_2, pi_119_2, gi_119_3, pi_119_3, gi_119_4, pi_119_4, gi_119_5, pi_119_5, gi_119_6, pi_119_6, gi_119_7, pi_119_7, gr_119_8, gr_119_9, gr_119_10, gr_119_11, gi_119_12, pi_119_12, gi_119_13, pi_119_13, gi_119_14, pi_119_14, gi_119_15, pi_119_15, gi_119_16, pi_119_16, gr_119_17, gr_119_18, gr_119_19, gr_119_20, gr_119_21, gi_119_22, pi_119_22, gi_119_23, pi_119_23, gr_119_24, gr_119_25, gr_119_26, gr_119_27, ob_119, ai_2, si_2, ai_3, si_3, ai_4, si_4, ai_5, si_5, ai_6, si_6, ai_115, si_115, ai_116, si_116, ai_117, si_117, ai_263, si_263, ai_264, si_264, ai_266, si_266, ai_267, si_267, ai_268, si_268, ai_269, si_269, ai_90, si_90, ai_91, si_91, ai_92, si_92, ai_93, si_93, ai_114, si_114, ai_118, si_118, ai_120, si_120, ai_121, si_121, ai_122, si_122, ai_123, si_123, ai_265, si_265, ar_95, ar_101, ar_107, ar_133, ar_198, ar_124, ar_24, qlit, nI_add, pk_mul, pk_div, q_rem, q_modN, nI_ltI, nI_leI, nI_eq, t1, t2, c1, c2, ↓reduceIte]
      rw [c1] at e1
      exact e1
  · refine ⟨S', ?_, e2, e3⟩
    simp (disch := omega) only [q_cal, q_car, q_cv, q_vi, q_vj, q_vr, q_vn, q_b2, q_let, q_letJ, q_bs, gr_0_0, gr_0_1, gr_0_2, gr_0_3, gr_0_4, gr_0_5, gr_0_6, gr_0_7, gi_0_8, pi_0_8, ob_0, gi_1_0, pi_1_0, gi_1_1, pi_1_1, gi_1_2, pi_1_2, gi_1_3, pi_1_3, gr_1_4, gr_1_5, gr_1_6, gr_1_7, gr_1_8, ob_1, gi_23_0, pi_23_0, gi_23_1, pi_23_1, gr_23_2, ob_23, gi_94_0, pi_94_0, gi_94_1, pi_94_1, gr_94_2, gr_94_3, gr_94_4, gr_94_5, gr_94_6, gr_94_7, ob_94, gi_113_0, pi_113_0, gr_113_1, gr_113_2, gr_113_3, gr_113_4, gr_113_5, ob_113, gi_89_0, pi_89_0, gi_89_1, pi_89_1, gi_89_2, pi_89_2, gi_89_3, pi_89_3, gr_89_4, gr_89_5, gr_89_6, gr_89_7, gi_89_8, pi_89_8, ob_89, gi_119_0, pi_119_0, gr_119_1, gi_119_2, pi_119_2, gi_119_3, pi_119_3, gi_119_4, pi_119_4, gi_119_5, pi_119_5, gi_119_6, pi_119_6, gi_119_7, pi_119_7, gr_119_8, gr_119_9, gr_119_10, gr_119_11, gi_119_12, pi_119_12, gi_119_13, pi_119_13, gi_119_14, pi_119_14, gi_119_15, pi_119_15, gi_119_16, pi_119_16, gr_119_17, gr_119_18, gr_119_19, gr_119_20, gr_119_21, gi_119_22, pi_119_22, gi_119_23, pi_119_23, gr_119_24, gr_119_25, gr_119_26, gr_119_27, ob_119, ai_2, si_2, ai_3, si_3, ai_4, si_4, ai_5, si_5, ai_6, si_6, ai_115, si_115, ai_116, si_116, ai_117, si_117, ai_263, si_263, ai_264, si_264, ai_266, si_266, ai_267, si_267, ai_268, si_268, ai_269, si_269, ai_90, si_90, ai_91, si_91, ai_92, si_92, ai_93, si_93, ai_114, si_114, ai_118, si_118, ai_120, si_120, ai_121, si_121, ai_122, si_122, ai_123, si_123, ai_265, si_265, ar_95, ar_101, ar_107, ar_133, ar_198, ar_124, ar_24, qlit, nI_add, pk_mul, pk_div, q_rem, q_modN, nI_ltI, nI_leI, nI_eq, t1, t2, c1, ↓reduceIte]
    exact e1
