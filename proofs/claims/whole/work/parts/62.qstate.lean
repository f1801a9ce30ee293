/-! states and the history -/
abbrev PS : Type := Nat × Nat × (Nat → Nat → Nat)
def stR (S : SS) (s : Nat) (σ : PS) : Prop := σ.1 < nF ∧ S.1 s 0 = nI (pF σ.1) ∧ S.1 s 1 = nI (mF σ.1) ∧ S.1 s 2 = nI σ.2.1 ∧ σ.2.1 ≤ 6 ∧ ∀ i, i < σ.2.1 → rowR σ.1 S (s + 2 + i) (σ.2.2 i)
theorem st_far {s t : Nat} (hs : isSt s = true) (ht : isSt t = true) (h : s ≠ t) : s + 8 ≤ t ∨ t + 8 ≤ s := by
  unfold isSt at hs ht
  simp at hs ht
  omega
theorem isSt_k {k : Nat} (h : k < 8) : isSt (25 + 8 * k) = true := by
  unfold isSt
  simp
  omega
theorem stR.eqo {S S' : SS} {s : Nat} {σ : PS} {X : Nat → Prop} (h : stR S s σ) (hX : eqo X S S') (hn : ∀ b, s ≤ b → b < s + 8 → ¬ X b) : stR S' s σ := by
  obtain ⟨h1, h2, h3, h4, h5, h6⟩ := h
  have e := (hX.1 s (hn s (by omega) (by omega))).1
  exact ⟨h1, by rw [e]; exact h2, by rw [e]; exact h3, by rw [e]; exact h4, h5, fun i hi => (h6 i hi).eqo hX (hn _ (by omega) (by omega))⟩
section QT
variable {A : AS} {S : SS}
theorem sX3_become {s t : Nat} {σ : PS} (hs : isSt s = true) (ht : isSt t = true) (hne : s ≠ t) (h : stR S t σ) : ∃ S', fX3_become s t (qH A S) = some (.inl none, qH A S') ∧ stR S' s σ ∧ eqo (fun x => s ≤ x ∧ x < s + 8) S S' := by
  obtain ⟨h1, h2, h3, h4, h5, h6⟩ := h
  have far := st_far hs ht hne
  have hq := qz h1
  let S1 := us (us (us S s 0 (nI (pF σ.1))) s 1 (nI (mF σ.1))) s 2 (nI σ.2.1)
  have e1 : eqo (fun x => s ≤ x ∧ x < s + 8) S S1 := ((eqo.us (by omega)).tr (eqo.us (by omega))).tr (eqo.us (by omega))
  have hc : S1.1 t 2 = nI σ.2.1 := by rw [(e1.1 t (by omega)).1]; exact h4
  have key : ∀ d i k T, i + d = σ.2.1 → d < k → (eqo (fun x => s + 2 ≤ x ∧ x < s + 8) S1 T ∧ ∀ i', i' < i → rowR σ.1 T (s + 2 + i') (σ.2.2 i')) → ∃ T', (eqo (fun x => s + 2 ≤ x ∧ x < s + 8) S1 T' ∧ ∀ i', i' < σ.2.1 → rowR σ.1 T' (s + 2 + i') (σ.2.2 i')) ∧ fX3_become_26 k s t (nI i) (qH A T) = some (.inl none, qH A T') := by
    refine loopP (fun k i T => fX3_become_26 k s t (nI i) (qH A T)) σ.2.1 (fun i T => eqo (fun x => s + 2 ≤ x ∧ x < s + 8) S1 T ∧ ∀ i', i' < i → rowR σ.1 T (s + 2 + i') (σ.2.2 i')) (fun x => ∃ T', (eqo (fun x => s + 2 ≤ x ∧ x < s + 8) S1 T' ∧ ∀ i', i' < σ.2.1 → rowR σ.1 T' (s + 2 + i') (σ.2.2 i')) ∧ x = some (.inl none, qH A T')) ?_ ?_
    · rintro k i T hi ⟨g1, g2⟩
      have hct : T.1 t 2 = nI σ.2.1 := by rw [(g1.1 t (by omega)).1]; exact hc
      have c : ¬ σ.2.1 ≤ i := by omega
      refine ⟨uA T (s + 2 + i) (fun j => if j < 64 then T.2.1 (t + 2 + i) j else T.2.1 (s + 2 + i) j), ⟨g1.tr (eqo.uA (by omega)), fun i' hi' => ?_⟩, ?_⟩
      · by_cases e : i' = i
        · subst e
          intro x hx
          rw [uA_at]
          show (if x < 64 then _ else _) = _ ∧ _
          rw [if_pos (by omega), (g1.1 (t + 2 + i') (by omega)).2, (e1.1 (t + 2 + i') (by omega)).2]
          exact h6 i' hi x hx
        · exact (g2 i' (by omega)).ne (by omega)
      · show fX3_become_26 (k + 1) s t (nI i) (qH A T) = _
        rw [fX3_become_26, gi_st ht (by decide), q_bs, hct, if_neg (by rw [nI_leI (by omega) (by omega)]; exact c), gr_st ht, q_bs, ar_mx ht (by omega), q_bs, gr_st hs, q_bs, ar_mx hs (by omega), q_bs, q_cp (ql_st ht (by omega)) (ql_st hs (by omega)), q_bs, nI_1]
    · rintro k T ⟨g1, g2⟩
      have hct : T.1 t 2 = nI σ.2.1 := by rw [(g1.1 t (by omega)).1]; exact hc
      refine ⟨T, ⟨g1, g2⟩, ?_⟩
      show fX3_become_26 (k + 1) s t (nI σ.2.1) (qH A T) = _
      rw [fX3_become_26, gi_st ht (by decide), q_bs, hct, if_pos (by rw [nI_leI (by omega) (by omega)]; exact Nat.le_refl _)]
  obtain ⟨T', ⟨g1, g2⟩, g3⟩ := key σ.2.1 0 FU S1 (by omega) (by unfold FU; omega) ⟨eqo.rf, fun i' hi' => by omega⟩
  have hT1 : T'.1 s = S1.1 s := (g1.1 s (by omega)).1
  refine ⟨T', ?_, ⟨h1, ?_, ?_, ?_, h5, g2⟩, e1.tr (g1.mo (fun b hb => by omega))⟩
  · unfold fX3_become
    have x1 : (us S s 0 (nI (pF σ.1))).1 t = S.1 t := us_ne (Ne.symm hne)
    have x2 : (us (us S s 0 (nI (pF σ.1))) s 1 (nI (mF σ.1))).1 t = S.1 t := by rw [us_ne (Ne.symm hne)]; exact x1
    rw [gi_st ht (by decide), q_bs, h2, pi_st hs (by decide), q_bs, gi_st ht (by decide), q_bs, x1, h3, pi_st hs (by decide), q_bs, gi_st ht (by decide), q_bs, x2, h4, pi_st hs (by decide), q_bs]
    exact g3
  · rw [hT1]; simp [S1, us_at]
  · rw [hT1]; simp [S1, us_at]
  · rw [hT1]; simp [S1, us_at]
theorem sX3_remove {σ : PS} {g : Nat} (h : stR S 7 σ) (hg : g < σ.2.1) : ∃ S', fX3_remove 7 (nI g) (qH A S) = some (.inl none, qH A S') ∧ stR S' 7 (σ.1, σ.2.1 - 1, fun i => if i < g then σ.2.2 i else σ.2.2 (i + 1)) ∧ eqo (fun x => 7 ≤ x ∧ x < 15) S S' := by
  obtain ⟨h1, h2, h3, h4, h5, h6⟩ := h
  have hq := qz h1
  have hs : isSt 7 = true := by decide
  have key : ∀ d i k T, i + d = σ.2.1 → d < k → (g + 1 ≤ i ∧ eqo (fun x => 9 ≤ x ∧ x < 15) S T ∧ (∀ i', i' < g → rowR σ.1 T (9 + i') (σ.2.2 i')) ∧ (∀ i', g ≤ i' → i' < i - 1 → rowR σ.1 T (9 + i') (σ.2.2 (i' + 1))) ∧ (∀ i', i - 1 ≤ i' → i' < σ.2.1 → T.2.1 (9 + i') = S.2.1 (9 + i'))) → ∃ T', (eqo (fun x => 9 ≤ x ∧ x < 15) S T' ∧ (∀ i', i' < g → rowR σ.1 T' (9 + i') (σ.2.2 i')) ∧ (∀ i', g ≤ i' → i' < σ.2.1 - 1 → rowR σ.1 T' (9 + i') (σ.2.2 (i' + 1)))) ∧ fX3_remove_4 k 7 (nI i) (qH A T) = some (.inl none, qH A (us T' 7 2 (nI (σ.2.1 - 1)))) := by
    refine loopP (fun k i T => fX3_remove_4 k 7 (nI i) (qH A T)) σ.2.1 (fun i T => g + 1 ≤ i ∧ eqo (fun x => 9 ≤ x ∧ x < 15) S T ∧ (∀ i', i' < g → rowR σ.1 T (9 + i') (σ.2.2 i')) ∧ (∀ i', g ≤ i' → i' < i - 1 → rowR σ.1 T (9 + i') (σ.2.2 (i' + 1))) ∧ (∀ i', i - 1 ≤ i' → i' < σ.2.1 → T.2.1 (9 + i') = S.2.1 (9 + i'))) (fun x => ∃ T', (eqo (fun x => 9 ≤ x ∧ x < 15) S T' ∧ (∀ i', i' < g → rowR σ.1 T' (9 + i') (σ.2.2 i')) ∧ (∀ i', g ≤ i' → i' < σ.2.1 - 1 → rowR σ.1 T' (9 + i') (σ.2.2 (i' + 1)))) ∧ x = some (.inl none, qH A (us T' 7 2 (nI (σ.2.1 - 1))))) ?_ ?_
    · rintro k i T hi ⟨g0, g1, g2, g3, g4⟩
      have hct : T.1 7 2 = nI σ.2.1 := by rw [(g1.1 7 (by omega)).1]; exact h4
      refine ⟨uA T (9 + (i - 1)) (fun j => if j < 64 then T.2.1 (9 + i) j else T.2.1 (9 + (i - 1)) j), ⟨by omega, g1.tr (eqo.uA (by omega)), fun i' hi' => (g2 i' hi').ne (by omega), fun i' x1 x2 => ?_, fun i' x1 x2 => ?_⟩, ?_⟩
      · by_cases e : i' = i - 1
        · subst e
          intro x hx
          rw [uA_at]
          show (if x < 64 then _ else _) = _ ∧ _
          rw [if_pos (by omega), g4 i (by omega) (by omega), show i - 1 + 1 = i by omega]
          exact h6 i hi x hx
        · exact (g3 i' x1 (by omega)).ne (by omega)
      · rw [uA_ne (by omega)]; exact g4 i' (by omega) x2
      · show fX3_remove_4 (k + 1) 7 (nI i) (qH A T) = _
        rw [show 9 + (i - 1) = 7 + 2 + (i - 1) from rfl, show 9 + i = 7 + 2 + i from rfl]
        rw [fX3_remove_4, gi_st hs (by decide), q_bs, hct, if_neg (by rw [nI_leI (by omega) (by omega)]; omega), gr_st hs, q_bs, ar_mx hs (by omega), q_bs, q_bs, show (nI i - 1 : Int32) = nI (i - 1) from pk_sub (b := 1) (by omega), ar_mx hs (by omega), q_bs, q_cp (ql_st hs (by omega)) (ql_st hs (by omega)), q_bs, nI_1]
    · rintro k T ⟨g0, g1, g2, g3, g4⟩
      have hct : T.1 7 2 = nI σ.2.1 := by rw [(g1.1 7 (by omega)).1]; exact h4
      refine ⟨T, ⟨g1, g2, g3⟩, ?_⟩
      show fX3_remove_4 (k + 1) 7 (nI σ.2.1) (qH A T) = _
      rw [fX3_remove_4, gi_st hs (by decide), q_bs, hct, if_pos (by rw [nI_leI (by omega) (by omega)]; exact Nat.le_refl _), q_bs, show (nI σ.2.1 - 1 : Int32) = nI (σ.2.1 - 1) from pk_sub (b := 1) (by omega), pi_st hs (by decide), q_bs]
  obtain ⟨T', ⟨g1, g2, g3⟩, g4⟩ := key (σ.2.1 - (g + 1)) (g + 1) FU S (by omega) (by unfold FU; omega) ⟨Nat.le_refl _, eqo.rf, fun i' hi' => h6 i' (by omega), fun i' x1 x2 => by omega, fun i' _ _ => rfl⟩
  have hT1 : T'.1 7 = S.1 7 := (g1.1 7 (by omega)).1
  refine ⟨us T' 7 2 (nI (σ.2.1 - 1)), ?_, ⟨h1, ?_, ?_, ?_, by show σ.2.1 - 1 ≤ 6; omega, fun i hi => ?_⟩, (g1.mo (fun b hb => by omega)).tr (eqo.us (by omega))⟩
  · unfold fX3_remove
    rw [nI_1]
    exact g4
  · rw [us_at, if_neg (by decide), hT1]; exact h2
  · rw [us_at, if_neg (by decide), hT1]; exact h3
  · rw [us_at, if_pos rfl]
  · have hi' : i < σ.2.1 - 1 := hi
    show rowR σ.1 _ (9 + i) (if i < g then σ.2.2 i else σ.2.2 (i + 1))
    by_cases e : i < g
    · rw [if_pos e]; exact g2 i e
    · rw [if_neg e]; exact g3 i (by omega) hi'
/-- what there was: the latest first -/
def hiR (S : SS) (n : Nat) (H : Nat → PS) : Prop := n ≤ 8 ∧ S.1 23 0 = nI n ∧ ∃ nx, nx < 8 ∧ S.1 23 1 = nI nx ∧ ∀ k, k < n → stR S (25 + 8 * ((nx + 7 - k) % 8)) (H k)
theorem hiR.eqo {S S' : SS} {n : Nat} {H : Nat → PS} {X : Nat → Prop} (h : hiR S n H) (hX : eqo X S S') (hn : ∀ b, 23 ≤ b → b < 89 → ¬ X b) : hiR S' n H := by
  obtain ⟨h1, h2, nx, h3, h4, h5⟩ := h
  have e := (hX.1 23 (hn 23 (by omega) (by omega))).1
  exact ⟨h1, by rw [e]; exact h2, nx, h3, by rw [e]; exact h4, fun k hk => (h5 k hk).eqo hX (fun b hb1 hb2 => hn b (by omega) (by omega))⟩
theorem sX1_keep {n : Nat} {H : Nat → PS} {σ : PS} (h : hiR S n H) (hs : stR S 7 σ) : ∃ S', fX1_keep 23 7 (qH A S) = some (.inl none, qH A S') ∧ hiR S' (if 8 ≤ n then 8 else n + 1) (fun k => if k = 0 then σ else H (k - 1)) ∧ eqo (fun x => 23 ≤ x ∧ x < 89) S S' := by
  obtain ⟨h1, h2, nx, h3, h4, h5⟩ := h
  obtain ⟨S1, a1, a2, a3⟩ := sX3_become (A := A) (s := 25 + 8 * nx) (t := 7) (isSt_k h3) (by decide) (by omega) hs
  have e23 : S1.1 23 = S.1 23 := (a3.1 23 (by omega)).1
  have c4 : S1.1 23 1 = nI nx := by rw [e23]; exact h4
  have c2 : S1.1 23 0 = nI n := by rw [e23]; exact h2
  let nx' := if 8 ≤ nx + 1 then 0 else nx + 1
  let n' := if 8 ≤ n then 8 else n + 1
  let S2 := us (us S1 23 1 (nI nx')) 23 0 (nI n')
  have e2 : eqo (fun x => x = 23) S1 S2 := (eqo.us (X := fun x => x = 23) rfl).tr (eqo.us rfl)
  refine ⟨S2, ?_, ⟨?_, ?_, nx', ?_, ?_, fun k hk => ?_⟩, (a3.mo (fun b hb => by omega)).tr (e2.mo (fun b hb => by omega))⟩
  · unfold fX1_keep
    rw [gr_23_2, q_bs, gi_23_1, q_bs, h4, ar_24 h3, q_bs, ob_st (isSt_k h3), q_cv, a1, q_cal, q_vn, gi_23_1, q_bs, c4, nI_1]
    have fin : ∀ v, v = nx' → fX1_keep_35 23 (nI v) 23 (qH A S1) = some (.inl none, qH A S2) := by
      rintro v rfl
      unfold fX1_keep_35 fX1_keep_59
      rw [pi_23_1, q_bs, gi_23_0, q_bs]
      have : (us S1 23 1 (nI nx')).1 23 0 = nI n := by rw [us_at, if_neg (by decide)]; exact c2
      rw [this]
      by_cases c : 8 ≤ n
      · rw [if_pos (by rw [qlit, nI_leI (by decide) (by omega)]; exact c), pi_23_0, q_bs]
        show some (_, qH A (us _ 23 0 8)) = some (_, qH A (us _ 23 0 (nI n')))
        rw [show n' = 8 from if_pos c]; rfl
      · rw [if_neg (by rw [qlit, nI_leI (by decide) (by omega)]; exact c), q_bs, nI_1, pi_23_0, q_bs]
        show some (_, qH A (us _ 23 0 (nI (n + 1)))) = some (_, qH A (us _ 23 0 (nI n')))
        rw [show n' = n + 1 from if_neg c]
    by_cases c : 8 ≤ nx + 1
    · rw [if_pos (by rw [qlit, nI_leI (by decide) (by omega)]; exact c)]
      exact fin 0 (if_pos c).symm
    · rw [if_neg (by rw [qlit, nI_leI (by decide) (by omega)]; exact c), q_bs, nI_1]
      exact fin (nx + 1) (if_neg c).symm
  · split <;> omega
  · show (us (us S1 23 1 (nI nx')) 23 0 (nI n')).1 23 0 = _
    rw [us_at, if_pos rfl]
  · show (if 8 ≤ nx + 1 then 0 else nx + 1) < 8
    split <;> omega
  · show (us (us S1 23 1 (nI nx')) 23 0 (nI n')).1 23 1 = _
    rw [us_at, if_neg (by decide), us_at, if_pos rfl]
  · have hnx : nx' = if 8 ≤ nx + 1 then 0 else nx + 1 := rfl
    by_cases e : k = 0
    · subst e
      have ei : (nx' + 7 - 0) % 8 = nx := by rw [hnx]; split <;> omega
      rw [ei]
      show stR S2 _ σ
      exact a2.eqo e2 (fun b hb1 hb2 => by omega)
    · have ei : (nx' + 7 - k) % 8 = (nx + 7 - (k - 1)) % 8 := by rw [hnx]; split <;> (split at hk <;> omega)
      have en : (nx + 7 - (k - 1)) % 8 ≠ nx := by split at hk <;> omega
      rw [ei]
      show stR S2 _ (if k = 0 then σ else H (k - 1))
      rw [if_neg e]
      have hk' : k - 1 < n := by split at hk <;> omega
      exact ((h5 (k - 1) hk').eqo a3 (fun b hb1 hb2 => by omega)).eqo e2 (fun b hb1 hb2 => by omega)
theorem sX1_take0 {H : Nat → PS} (h : hiR S 0 H) : fX1_takeLast 23 (qH A S) = some (.inl (some .null), qH A S) := by
  obtain ⟨h1, h2, nx, h3, h4, h5⟩ := h
  unfold fX1_takeLast
  rw [gi_23_0, q_bs, h2, if_pos (by rfl)]
theorem sX1_take {n : Nat} {H : Nat → PS} (h : hiR S (n + 1) H) : ∃ S' s, fX1_takeLast 23 (qH A S) = some (.inl (some (.ref s)), qH A S') ∧ (isSt s = true ∧ 25 ≤ s ∧ s ≤ 81) ∧ stR S' s (H 0) ∧ hiR S' n (fun k => H (k + 1)) ∧ eqo (fun x => x = 23) S S' := by
  obtain ⟨h1, h2, nx, h3, h4, h5⟩ := h
  obtain ⟨nx', hx'⟩ : ∃ v, v = (nx + 7) % 8 := ⟨_, rfl⟩
  have hn' : nx' < 8 := by omega
  let S2 := us (us S 23 0 (nI n)) 23 1 (nI nx')
  have e2 : eqo (fun x => x = 23) S S2 := (eqo.us (X := fun x => x = 23) rfl).tr (eqo.us rfl)
  refine ⟨S2, 25 + 8 * nx', ?_, ⟨isSt_k hn', Nat.le_add_right 25 _, show 25 + 8 * nx' ≤ 81 by omega⟩, ?_, ⟨by omega, ?_, nx', hn', ?_, fun k hk => ?_⟩, e2⟩
  · unfold fX1_takeLast
    rw [gi_23_0, q_bs, h2, if_neg (by rw [qlit, nI_eq (by omega) (by decide)]; exact Nat.succ_ne_zero n), q_bs, nI_pred, pi_23_0, q_bs, gi_23_1, q_bs]
    have c4 : (us S 23 0 (nI n)).1 23 1 = nI nx := by rw [us_at, if_neg (by decide)]; exact h4
    rw [c4]
    have fin : ∀ v, v = nx' → fX1_takeLast_38 23 (nI v) 23 (qH A (us S 23 0 (nI n))) = some (.inl (some (.ref (25 + 8 * nx'))), qH A S2) := by
      intro v hv
      rw [hv]
      unfold fX1_takeLast_38
      rw [pi_23_1, q_bs, gr_23_2, q_bs, gi_23_1, q_bs]
      have : (us (us S 23 0 (nI n)) 23 1 (nI nx')).1 23 1 = nI nx' := by rw [us_at, if_pos rfl]
      rw [this, ar_24 hn', q_bs]
    by_cases c : nx ≤ 0
    · rw [if_pos (by rw [qlit, nI_leI (by omega) (by decide)]; exact c)]
      exact fin 7 (by omega)
    · rw [if_neg (by rw [qlit, nI_leI (by omega) (by decide)]; exact c), q_bs, show (nI nx - 1 : Int32) = nI (nx - 1) from pk_sub (b := 1) (by omega)]
      exact fin (nx - 1) (by omega)
  · have := h5 0 (by omega)
    rw [Nat.sub_zero, ← hx'] at this
    exact this.eqo e2 (fun b hb1 hb2 => by omega)
  · show (us (us S 23 0 (nI n)) 23 1 (nI nx')).1 23 0 = _
    rw [us_at, if_neg (by decide), us_at, if_pos rfl]
  · show (us (us S 23 0 (nI n)) 23 1 (nI nx')).1 23 1 = _
    rw [us_at, if_pos rfl]
  · have := h5 (k + 1) (by omega)
    have ei : (nx + 7 - (k + 1)) % 8 = (nx' + 7 - k) % 8 := by omega
    rw [ei] at this
    exact this.eqo e2 (fun b hb1 hb2 => by omega)
end QT
