/-! the reference's monomials, Dickson's, binomials, print -/
section QMK
variable {A : AS} {S : SS} {f : Nat}
theorem m_mono19 (hf : f < nF) (hT : TabM f S) {n M : Nat} (hn : n < 64) (hM : M < 2 ^ 64) (K8 : Nat → Int64 → Int32 → AH → RR) : fX7_monomials_19 K8 FU 119 (lN M) (nI n) 0 (qH A S) = K8 119 (lN (if pmB (qF f) (fun x => pw f x n) = true then M ||| 2 ^ n else M)) (nI (n + 1)) (qH A (uA S 266 (fa_fill (fun x => nI (pw f x n)) (S.2.1 266) (qF f)))) := by
  have hq := qz hf
  have hz : S.1 119 15 = nI (qF f) := hT.2.2.2.2.2.2.1
  have hX : ∀ g, eqo (fun b => b = 266) S (uA S 266 g) := fun g => eqo.uA (X := fun b => b = 266) rfl
  have hTX : ∀ g, TabM f (uA S 266 g) := fun g => hT.eqo hf (hX g) (fun b hb (e : b = 266) => by omega)
  have h := loopF0 (fun k x s => fX7_monomials_19 K8 k 119 (lN M) (nI n) (nI x) (qH A s)) (qF f) (fun x => uA S 266 (fa_fill (fun x => nI (pw f x n)) (S.2.1 266) x)) (K8 119 (lN (if pmB (qF f) (fun x => pw f x n) = true then M ||| 2 ^ n else M)) (nI (n + 1)) (qH A (uA S 266 (fa_fill (fun x => nI (pw f x n)) (S.2.1 266) (qF f))))) (by omega) ?_ ?_
  · rw [fa_fill_0, uA_self] at h
    exact h
  · intro k x hx
    show fX7_monomials_19 K8 (k + 1) 119 (lN M) (nI n) (nI x) (qH A _) = _
    rw [fX7_monomials_19, gi_119_15, q_bs, uA_s, hz, if_neg (by rw [nI_leI (by omega) (by omega)]; omega), gr_119_24, q_bs, ob_119, q_cv, m_raisedPoint hf (hTX _) (by omega) hx, q_cal, q_vi, q_si ql_266 (by omega), q_bs, uaA, nI_1]
    rw [show upd (fa_fill (fun x => nI (pw f x n)) (S.2.1 266) x) x (nI (pw f x n)) = fa_fill (fun x => nI (pw f x n)) (S.2.1 266) (x + 1) from fa_fill_succ (fun x => nI (pw f x n)) (S.2.1 266) x]
  · intro k
    have hr2 : rowR f (uA S 266 (fa_fill (fun x => nI (pw f x n)) (S.2.1 266) (qF f))) 266 (fun x => pw f x n) := rowR.fill (fun x hx => pw_lt hf hx n)
    show fX7_monomials_19 K8 (k + 1) 119 (lN M) (nI n) (nI (qF f)) (qH A _) = _
    rw [fX7_monomials_19, gi_119_15, q_bs, uA_s, hz, if_pos (by rw [nI_leI (by omega) (by omega)]; exact Nat.le_refl _), ob_119, q_cv, m_areAll hf (by rw [uA_s]; exact hz) hr2, q_cal, q_vi, nI_1]
    by_cases c : pmB (qF f) (fun x => pw f x n) = true
    · rw [if_neg (by rw [q_pm0]; exact fun h => h c), if_pos c, q_letJ, q_sh1 hn, wb_or hM (Nat.pow_lt_pow_right (by decide) hn)]
    · rw [if_pos (by rw [q_pm0]; exact c), if_neg c]
theorem m_mono (hf : f < nF) (hT : TabM f S) : ∃ S', fX7_monomials_8 FU 119 0 1 (qH A S) = some (.inl (some (.long (lN (bst (fun m => pmB (qF f) (fun x => pw f x m)) (qF f - 1))))), qH A S') ∧ eqo (fun x => x = 266) S S' := by
  have hq := qz hf
  have hz : S.1 119 15 = nI (qF f) := hT.2.2.2.2.2.2.1
  have key := loopP (fun k j s => fX7_monomials_8 k 119 (lN (bst (fun m => pmB (qF f) (fun x => pw f x m)) j)) (nI (j + 1)) (qH A s)) (qF f - 1) (fun _ s => eqo (fun x => x = 266) S s) (fun o => ∃ S', o = some (.inl (some (.long (lN (bst (fun m => pmB (qF f) (fun x => pw f x m)) (qF f - 1))))), qH A S') ∧ eqo (fun x => x = 266) S S') ?_ ?_ (qF f - 1) 0 FU S (by omega) (by unfold FU; omega) eqo.rf
  · exact key
  · intro k j T hj g
    have hT2 : TabM f T := hT.eqo hf g (fun b hb (e : b = 266) => by omega)
    have hz2 : T.1 119 15 = nI (qF f) := hT2.2.2.2.2.2.2.1
    refine ⟨uA T 266 (fa_fill (fun x => nI (pw f x (j + 1))) (T.2.1 266) (qF f)), g.tr (eqo.uA (X := fun x => x = 266) rfl), ?_⟩
    show fX7_monomials_8 (k + 1) 119 _ (nI (j + 1)) (qH A T) = fX7_monomials_8 k 119 (lN (if pmB (qF f) (fun x => pw f x (j + 1)) = true then bst (fun m => pmB (qF f) (fun x => pw f x m)) j ||| 2 ^ (j + 1) else bst (fun m => pmB (qF f) (fun x => pw f x m)) j)) (nI (j + 1 + 1)) (qH A _)
    rw [fX7_monomials_8, gi_119_15, q_bs, hz2, if_neg (by rw [nI_leI (by omega) (by omega)]; omega), m_mono19 hf hT2 (by omega) (bst_lt j (by omega))]
  · intro k T g
    have hz2 : T.1 119 15 = nI (qF f) := by rw [(g.1 119 (by decide)).1]; exact hz
    refine ⟨T, ?_, g⟩
    show fX7_monomials_8 (k + 1) 119 _ (nI (qF f - 1 + 1)) (qH A T) = _
    rw [fX7_monomials_8, gi_119_15, q_bs, hz2, if_pos (by rw [nI_leI (by omega) (by omega)]; omega)]
theorem m_dick43 (hf : f < nF) (hT : TabM f S) {a n M : Nat} (ha : a < qF f) (hn : n < 64) (hM : M < 2 ^ 64) (K33 : Nat → Int32 → Int64 → Int32 → AH → RR) : fX7_dicksons_43 K33 FU 119 (nI a) (lN M) (nI n) 0 (qH A S) = K33 119 (nI a) (lN (if pmB (qF f) (fun x => dk f a x n) = true then M ||| 2 ^ n else M)) (nI (n + 1)) (qH A (uA S 266 (fa_fill (fun x => nI (dk f a x n)) (S.2.1 266) (qF f)))) := by
  have hq := qz hf
  have hz : S.1 119 15 = nI (qF f) := hT.2.2.2.2.2.2.1
  have hX : ∀ g, eqo (fun b => b = 266) S (uA S 266 g) := fun g => eqo.uA (X := fun b => b = 266) rfl
  have hTX : ∀ g, TabM f (uA S 266 g) := fun g => hT.eqo hf (hX g) (fun b hb (e : b = 266) => by omega)
  have h := loopF0 (fun k x s => fX7_dicksons_43 K33 k 119 (nI a) (lN M) (nI n) (nI x) (qH A s)) (qF f) (fun x => uA S 266 (fa_fill (fun x => nI (dk f a x n)) (S.2.1 266) x)) (K33 119 (nI a) (lN (if pmB (qF f) (fun x => dk f a x n) = true then M ||| 2 ^ n else M)) (nI (n + 1)) (qH A (uA S 266 (fa_fill (fun x => nI (dk f a x n)) (S.2.1 266) (qF f))))) (by omega) ?_ ?_
  · rw [fa_fill_0, uA_self] at h
    exact h
  · intro k x hx
    show fX7_dicksons_43 K33 (k + 1) 119 (nI a) (lN M) (nI n) (nI x) (qH A _) = _
    rw [fX7_dicksons_43, gi_119_15, q_bs, uA_s, hz, if_neg (by rw [nI_leI (by omega) (by omega)]; omega), gr_119_24, q_bs, ob_119, q_cv, m_dickson hf (hTX _) (by omega) ha hx, q_cal, q_vi, q_si ql_266 (by omega), q_bs, uaA, nI_1]
    rw [show upd (fa_fill (fun x => nI (dk f a x n)) (S.2.1 266) x) x (nI (dk f a x n)) = fa_fill (fun x => nI (dk f a x n)) (S.2.1 266) (x + 1) from fa_fill_succ (fun x => nI (dk f a x n)) (S.2.1 266) x]
  · intro k
    have hr2 : rowR f (uA S 266 (fa_fill (fun x => nI (dk f a x n)) (S.2.1 266) (qF f))) 266 (fun x => dk f a x n) := rowR.fill (fun x hx => dk_lt hf ha hx n)
    show fX7_dicksons_43 K33 (k + 1) 119 (nI a) (lN M) (nI n) (nI (qF f)) (qH A _) = _
    rw [fX7_dicksons_43, gi_119_15, q_bs, uA_s, hz, if_pos (by rw [nI_leI (by omega) (by omega)]; exact Nat.le_refl _), ob_119, q_cv, m_areAll hf (by rw [uA_s]; exact hz) hr2, q_cal, q_vi, nI_1]
    by_cases c : pmB (qF f) (fun x => dk f a x n) = true
    · rw [if_neg (by rw [q_pm0]; exact fun h => h c), if_pos c, q_letJ, q_sh1 hn, wb_or hM (Nat.pow_lt_pow_right (by decide) hn)]
    · rw [if_pos (by rw [q_pm0]; exact c), if_neg c]
theorem m_dick (hf : f < nF) (hT : TabM f S) {a : Nat} (ha : a < qF f) : ∃ S', fX7_dicksons_33 FU 119 (nI a) 0 1 (qH A S) = some (.inl (some (.long (lN (bst (fun m => pmB (qF f) (fun x => dk f a x m)) 63)))), qH A S') ∧ eqo (fun x => x = 266) S S' := by
  have hq := qz hf
  have key := loopP (fun k j s => fX7_dicksons_33 k 119 (nI a) (lN (bst (fun m => pmB (qF f) (fun x => dk f a x m)) j)) (nI (j + 1)) (qH A s)) 63 (fun _ s => eqo (fun x => x = 266) S s) (fun o => ∃ S', o = some (.inl (some (.long (lN (bst (fun m => pmB (qF f) (fun x => dk f a x m)) 63)))), qH A S') ∧ eqo (fun x => x = 266) S S') ?_ ?_ 63 0 FU S (by omega) (by unfold FU; omega) eqo.rf
  · exact key
  · intro k j T hj g
    have hT2 : TabM f T := hT.eqo hf g (fun b hb (e : b = 266) => by omega)
    refine ⟨uA T 266 (fa_fill (fun x => nI (dk f a x (j + 1))) (T.2.1 266) (qF f)), g.tr (eqo.uA (X := fun x => x = 266) rfl), ?_⟩
    show fX7_dicksons_33 (k + 1) 119 (nI a) _ (nI (j + 1)) (qH A T) = fX7_dicksons_33 k 119 (nI a) (lN (if pmB (qF f) (fun x => dk f a x (j + 1)) = true then bst (fun m => pmB (qF f) (fun x => dk f a x m)) j ||| 2 ^ (j + 1) else bst (fun m => pmB (qF f) (fun x => dk f a x m)) j)) (nI (j + 1 + 1)) (qH A _)
    rw [fX7_dicksons_33, if_neg (by rw [qlit, nI_leI (by decide) (by omega)]; omega), m_dick43 hf hT2 ha (by omega) (bst_lt j (by omega))]
  · intro k T g
    refine ⟨T, ?_, g⟩
    show fX7_dicksons_33 (k + 1) 119 (nI a) _ (nI (63 + 1)) (qH A T) = _
    rw [fX7_dicksons_33, if_pos (by decide)]
theorem m_bin49 (hf : f < nF) (hT : TabM f S) {a n M : Nat} (ha : a < qF f) (hn : n < 64) (K38 : Nat → Int32 → Int32 → Int32 → AH → RR) : fX7_binomials_49 K38 FU 119 (nI n) (nI M) (nI a) 0 (qH A S) = K38 119 (nI n) (nI (M + (if pmB (qF f) (fun x => ad f (pw f x n) (mu f a x)) = true then 1 else 0))) (nI (a + 1)) (qH A (uA S 266 (fa_fill (fun x => nI (ad f (pw f x n) (mu f a x))) (S.2.1 266) (qF f)))) := by
  have hq := qz hf
  have hz : S.1 119 15 = nI (qF f) := hT.2.2.2.2.2.2.1
  have hX : ∀ g, eqo (fun b => b = 266) S (uA S 266 g) := fun g => eqo.uA (X := fun b => b = 266) rfl
  have hTX : ∀ g, TabM f (uA S 266 g) := fun g => hT.eqo hf (hX g) (fun b hb (e : b = 266) => by omega)
  have h := loopF0 (fun k x s => fX7_binomials_49 K38 k 119 (nI n) (nI M) (nI a) (nI x) (qH A s)) (qF f) (fun x => uA S 266 (fa_fill (fun x => nI (ad f (pw f x n) (mu f a x))) (S.2.1 266) x)) (K38 119 (nI n) (nI (M + (if pmB (qF f) (fun x => ad f (pw f x n) (mu f a x)) = true then 1 else 0))) (nI (a + 1)) (qH A (uA S 266 (fa_fill (fun x => nI (ad f (pw f x n) (mu f a x))) (S.2.1 266) (qF f))))) (by omega) ?_ ?_
  · rw [fa_fill_0, uA_self] at h
    exact h
  · intro k x hx
    obtain ⟨p1, p2⟩ := tm_p (A := A) hf (hTX (fa_fill (fun x => nI (ad f (pw f x n) (mu f a x))) (S.2.1 266) x)) ha hx
    obtain ⟨s1, s2⟩ := tm_s (A := A) hf (hTX (fa_fill (fun x => nI (ad f (pw f x n) (mu f a x))) (S.2.1 266) x)) (pw_lt hf hx n) (mu_lt hf ha hx)
    show fX7_binomials_49 K38 (k + 1) 119 (nI n) (nI M) (nI a) (nI x) (qH A _) = _
    rw [fX7_binomials_49, gi_119_15, q_bs, uA_s, hz, if_neg (by rw [nI_leI (by omega) (by omega)]; omega), gr_119_24, q_bs, gr_119_17, q_bs, ob_119, q_cv, m_raisedPoint hf (hTX _) (by omega) hx, q_cal, q_vi, s1, q_bs, gr_119_18, q_bs, p1, q_bs, p2, q_bs, s2, q_bs, q_si ql_266 (by omega), q_bs, uaA, nI_1]
    rw [show upd (fa_fill (fun x => nI (ad f (pw f x n) (mu f a x))) (S.2.1 266) x) x (nI (ad f (pw f x n) (mu f a x))) = fa_fill (fun x => nI (ad f (pw f x n) (mu f a x))) (S.2.1 266) (x + 1) from fa_fill_succ (fun x => nI (ad f (pw f x n) (mu f a x))) (S.2.1 266) x]
  · intro k
    have hr2 : rowR f (uA S 266 (fa_fill (fun x => nI (ad f (pw f x n) (mu f a x))) (S.2.1 266) (qF f))) 266 (fun x => ad f (pw f x n) (mu f a x)) := rowR.fill (fun x hx => ad_lt hf (pw_lt hf hx n) (mu_lt hf ha hx))
    show fX7_binomials_49 K38 (k + 1) 119 (nI n) (nI M) (nI a) (nI (qF f)) (qH A _) = _
    rw [fX7_binomials_49, gi_119_15, q_bs, uA_s, hz, if_pos (by rw [nI_leI (by omega) (by omega)]; exact Nat.le_refl _), ob_119, q_cv, m_areAll hf (by rw [uA_s]; exact hz) hr2, q_cal, q_vi, nI_1, nI_1]
    by_cases c : pmB (qF f) (fun x => ad f (pw f x n) (mu f a x)) = true
    · rw [if_neg (by rw [q_pm0]; exact fun h => h c), if_pos c]
    · rw [if_pos (by rw [q_pm0]; exact c), if_neg c, show (0 : Int32) = nI 0 from rfl, nI_add]
theorem m_bin (hf : f < nF) (hT : TabM f S) {n : Nat} (hn : n < 64) : ∃ S', fX7_binomials_38 FU 119 (nI n) 0 0 (qH A S) = some (.inl (some (.int (nI (fb_ct (fun a => pmB (qF f) (fun x => ad f (pw f x n) (mu f a x))) (qF f))))), qH A S') ∧ eqo (fun x => x = 266) S S' := by
  have hq := qz hf
  have hz : S.1 119 15 = nI (qF f) := hT.2.2.2.2.2.2.1
  have key := loopP (fun k a s => fX7_binomials_38 k 119 (nI n) (nI (fb_ct (fun a => pmB (qF f) (fun x => ad f (pw f x n) (mu f a x))) a)) (nI a) (qH A s)) (qF f) (fun _ s => eqo (fun x => x = 266) S s) (fun o => ∃ S', o = some (.inl (some (.int (nI (fb_ct (fun a => pmB (qF f) (fun x => ad f (pw f x n) (mu f a x))) (qF f))))), qH A S') ∧ eqo (fun x => x = 266) S S') ?_ ?_ (qF f) 0 FU S (by omega) (by unfold FU; omega) eqo.rf
  · exact key
  · intro k a T ha g
    have hT2 : TabM f T := hT.eqo hf g (fun b hb (e : b = 266) => by omega)
    have hz2 : T.1 119 15 = nI (qF f) := hT2.2.2.2.2.2.2.1
    refine ⟨uA T 266 (fa_fill (fun x => nI (ad f (pw f x n) (mu f a x))) (T.2.1 266) (qF f)), g.tr (eqo.uA (X := fun x => x = 266) rfl), ?_⟩
    show fX7_binomials_38 (k + 1) 119 (nI n) _ (nI a) (qH A T) = _
    rw [fX7_binomials_38, gi_119_15, q_bs, hz2, if_neg (by rw [nI_leI (by omega) (by omega)]; omega), m_bin49 hf hT2 ha hn, fb_ct_succ]
  · intro k T g
    have hz2 : T.1 119 15 = nI (qF f) := by rw [(g.1 119 (by decide)).1]; exact hz
    refine ⟨T, ?_, g⟩
    show fX7_binomials_38 (k + 1) 119 (nI n) _ (nI (qF f)) (qH A T) = _
    rw [fX7_binomials_38, gi_119_15, q_bs, hz2, if_pos (by rw [nI_leI (by omega) (by omega)]; exact Nat.le_refl _)]
theorem m_print (hf : f < nF) (hz : S.1 119 15 = nI (qF f)) {c : Nat} {W : Nat → Nat → Nat} (hc6 : c ≤ 6) (hc : S.2.1 122 2 = nI c) (hr : ∀ i, i < c → nowR f S i (W i)) : fX7_print_8 FU 119 0 0 (qH A S) = some (.inl (some (.long (prP (qF f) W c))), qH A S) := by
  have hq := qz hf
  have inn : ∀ (K8 : Nat → Int64 → Int32 → AH → RR) i w, i < c → fX7_print_21 K8 FU 119 w (nI i) 0 (qH A S) = K8 119 (prR (W i) (qF f) w) (nI (i + 1)) (qH A S) := by
    intro K8 i w hi
    have h := loopF0 (fun k x v => fX7_print_21 K8 k 119 v (nI i) (nI x) (qH A S)) (qF f) (fun x => prR (W i) x w) (K8 119 (prR (W i) (qF f) w) (nI (i + 1)) (qH A S)) (by omega) ?_ ?_
    · exact h
    · intro k x hx
      show fX7_print_21 K8 (k + 1) 119 (prR (W i) x w) (nI i) (nI x) (qH A S) = fX7_print_21 K8 k 119 (31 * prR (W i) x w + (nI (W i x)).toInt64) (nI i) (nI (x + 1)) (qH A S)
      rw [fX7_print_21, gi_119_15, q_bs, hz, if_neg (by rw [nI_leI (by omega) (by omega)]; omega), ob_119, q_cv, m_at hf (by omega) (hr i hi) hx, q_cal, q_vi, q_letJ, nI_1]
    · intro k
      show fX7_print_21 K8 (k + 1) 119 _ (nI i) (nI (qF f)) (qH A S) = _
      rw [fX7_print_21, gi_119_15, q_bs, hz, if_pos (by rw [nI_leI (by omega) (by omega)]; exact Nat.le_refl _), nI_1]
  have h := loopF0 (fun k i v => fX7_print_8 k 119 v (nI i) (qH A S)) c (fun i => prP (qF f) W i) (some (.inl (some (.long (prP (qF f) W c))), qH A S)) (by omega) ?_ ?_
  · exact h
  · intro k i hi
    show fX7_print_8 (k + 1) 119 (prP (qF f) W i) (nI i) (qH A S) = fX7_print_8 k 119 (prR (W i) (qF f) (prP (qF f) W i)) (nI (i + 1)) (qH A S)
    rw [fX7_print_8, gr_119_9, q_bs, show (2 : Int32) = nI 2 from rfl, q_ai ql_122 (by decide), q_bs, hc, if_neg (by rw [nI_leI (by omega) (by omega)]; omega), inn _ i _ hi]
  · intro k
    show fX7_print_8 (k + 1) 119 _ (nI c) (qH A S) = _
    rw [fX7_print_8, gr_119_9, q_bs, show (2 : Int32) = nI 2 from rfl, q_ai ql_122 (by decide), q_bs, hc, if_pos (by rw [nI_leI (by omega) (by omega)]; exact Nat.le_refl _)]
end QMK
