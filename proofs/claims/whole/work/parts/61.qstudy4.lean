/-! the component's questions, part 4: spread -/
def mxN (g : Nat → Nat) : Nat → Nat
  | 0 => 0
  | n + 1 => max (mxN g n) (g n)
theorem mx_le {g : Nat → Nat} {c : Nat} : ∀ n, (∀ x, x < n → g x ≤ c) → mxN g n ≤ c
  | 0, _ => Nat.zero_le _
  | n + 1, h => Nat.max_le.mpr ⟨mx_le n (fun x hx => h x (by omega)), h n (by omega)⟩
theorem le_mx {g : Nat → Nat} : ∀ n x, x < n → g x ≤ mxN g n
  | 0, _, h => by omega
  | n + 1, x, h => by
    show g x ≤ max (mxN g n) (g n)
    by_cases e : x = n
    · subst e; exact Nat.le_max_right _ _
    · exact Nat.le_trans (le_mx n x (by omega)) (Nat.le_max_left _ _)
theorem mx_cong {g h : Nat → Nat} : ∀ n, (∀ x, x < n → g x = h x) → mxN g n = mxN h n
  | 0, _ => rfl
  | n + 1, e => by rw [mxN, mxN, mx_cong n (fun x hx => e x (by omega)), e n (by omega)]
theorem mx_up {g h : Nat → Nat} {b q : Nat} (hb : b < q) (h1 : h b = g b + 1) (h2 : ∀ x, x ≠ b → h x = g x) : mxN h q = max (mxN g q) (h b) := by
  refine Nat.le_antisymm (mx_le q (fun x hx => ?_)) (Nat.max_le.mpr ⟨mx_le q (fun x hx => ?_), le_mx q b hb⟩)
  · by_cases e : x = b
    · subst e; exact Nat.le_max_right _ _
    · rw [h2 x e]; exact Nat.le_trans (le_mx q x hx) (Nat.le_max_left _ _)
  · by_cases e : x = b
    · subst e; have := le_mx (g := h) q x hx; omega
    · rw [← h2 x e]; exact le_mx q x hx
/-- differences, how often the value b for a -/
def dfF (f : Nat) (R : Nat → Nat) (a s : Nat) : Nat := ad f (R (ad f s a)) (ng f (R s))
def dcF (f : Nat) (R : Nat → Nat) (a n b : Nat) : Nat := fb_ct (fun s => dfF f R a s == b) n
/-- the greatest, for the first so many a above 0 -/
def spF (f : Nat) (R : Nat → Nat) : Nat → Nat
  | 0 => 0
  | n + 1 => max (spF f R n) (mxN (dcF f R (n + 1) (qF f)) (qF f))
theorem dc_le (f : Nat) (R : Nat → Nat) (a n b : Nat) : dcF f R a n b ≤ n := fb_ct_le _ _
theorem sp_le (f : Nat) (R : Nat → Nat) : ∀ n, spF f R n ≤ qF f
  | 0 => Nat.zero_le _
  | n + 1 => Nat.max_le.mpr ⟨sp_le f R n, mx_le _ (fun x _ => dc_le f R _ _ x)⟩
theorem mx_zero : ∀ n, mxN (fun _ => 0) n = 0
  | 0 => rfl
  | n + 1 => by rw [mxN, mx_zero n]; rfl
section QS4
variable {A : AS} {S : SS} {f : Nat}
theorem st_spr4 (hf : f < nF) {r : Nat} {R : Nat → Nat} (lr : qL A r 64) (hn : r ≠ 115) : ∀ d a K S, a + d = qF f → 1 ≤ a → d < K → TabC f S → rowR f S r R →
    ∃ S', fX4_spreadOf_4 K 113 r (nI (spF f R (a - 1))) (nI a) (qH A S) = some (.inl (some (.int (nI (spF f R (qF f - 1))))), qH A S') ∧ eqo (fun x => x = 115) S S' := by
  have hq := qz hf
  intro d
  induction d with
  | zero =>
    intro a K S h1 hn1 h2 hT hr
    obtain ⟨K, rfl⟩ : ∃ k', K = k' + 1 := ⟨K - 1, by omega⟩
    have hz : S.1 1 2 = nI (qF f) := hT.2.2.2.2.2.2.1
    obtain rfl : a = qF f := by omega
    refine ⟨S, ?_, eqo.rf⟩
    rw [fX4_spreadOf_4]
    simp (disch := omega) only [gr_113_2, q_bs, gi_1_2, hz, nI_leI, Nat.le_refl, ↓reduceIte]
  | succ d ih =>
    intro a K S h1 hn1 h2 hT hr
    obtain ⟨K, rfl⟩ : ∃ k', K = k' + 1 := ⟨K - 1, by omega⟩
    have hz : S.1 1 2 = nI (qF f) := hT.2.2.2.2.2.2.1
    have ha : a < qF f := by omega
    have c : ¬ qF f ≤ a := by omega
    have ea : a = (a - 1) + 1 := by omega
    have hsp := sp_le f R (a - 1)
    let S0 := uA S 115 (fa_fill (fun _ => nI 0) (S.2.1 115) (qF f))
    let S1 := uA S 115 (fa_fill (fun b => nI (dcF f R a (qF f) b)) (S.2.1 115) (qF f))
    obtain ⟨S', a1, a2⟩ := ih (a + 1) K S1 (by omega) (by omega) (by omega) (hT.uA (by decide)) (hr.ne hn)
    rw [Nat.add_sub_cancel] at a1
    refine ⟨S', ?_, (eqo.uA (X := fun x => x = 115) rfl).tr a2⟩
    have es : spF f R a = max (spF f R (a - 1)) (mxN (dcF f R a (qF f)) (qF f)) := by
      have : spF f R a = spF f R ((a - 1) + 1) := by rw [← ea]
      rw [this, spF, ← ea]
    have in2 : fX4_spreadOf_47 (fun p0 p1 p2 p3 h => fX4_spreadOf_4 K p0 p1 p2 p3 h) FU 113 r (nI (spF f R (a - 1))) (nI a) 0 (qH A S0) = some (.inl (some (.int (nI (spF f R (qF f - 1))))), qH A S') := by
      have h := loopF0 (fun j i (s : Nat × SS) => fX4_spreadOf_47 (fun p0 p1 p2 p3 h => fX4_spreadOf_4 K p0 p1 p2 p3 h) j 113 r (nI s.1) (nI a) (nI i) (qH A s.2)) (qF f) (fun i => (max (spF f R (a - 1)) (mxN (dcF f R a i) (qF f)), uA S 115 (fa_fill (fun b => nI (dcF f R a i b)) (S.2.1 115) (qF f)))) (some (.inl (some (.int (nI (spF f R (qF f - 1))))), qH A S')) (by omega) ?_ ?_
      · have e1 : max (spF f R (a - 1)) (mxN (dcF f R a 0) (qF f)) = spF f R (a - 1) := by
          rw [show dcF f R a 0 = fun _ => 0 from rfl, mx_zero]; exact Nat.max_eq_left (Nat.zero_le _)
        simp only [e1] at h
        exact h
      · intro j i hlt
        have c : ¬ qF f ≤ i := by omega
        obtain ⟨g1, g2⟩ := hr i hlt
        have x1 := ad_lt hf hlt ha
        obtain ⟨g3, g4⟩ := hr _ x1
        have hT2 : TabC f (uA S 115 (fa_fill (fun b => nI (dcF f R a i b)) (S.2.1 115) (qF f))) := hT.uA (by decide)
        have hb : dfF f R a i < qF f := ad_lt hf g4 (ng_lt hf g2)
        have hdc := dc_le f R a i (dfF f R a i)
        have hup1 : dcF f R a (i + 1) (dfF f R a i) = dcF f R a i (dfF f R a i) + 1 := by
          unfold dcF; rw [fb_ct_succ, if_pos (by simp)]
        have hup2 : ∀ x, x ≠ dfF f R a i → dcF f R a (i + 1) x = dcF f R a i x := by
          intro x hx
          unfold dcF; rw [fb_ct_succ, if_neg (by simp; exact fun e => hx e.symm)]; rfl
        have hmx := mx_up (q := qF f) hb hup1 hup2
        have hmle : mxN (dcF f R a i) (qF f) ≤ qF f := mx_le _ (fun x _ => Nat.le_trans (dc_le f R a i x) (by omega))
        have e1 : (uA S 115 (fa_fill (fun b => nI (dcF f R a i b)) (S.2.1 115) (qF f))).2.1 115 (dfF f R a i) = nI (dcF f R a i (dfF f R a i)) := by rw [uA_at, fa_fill_in hb]
        have e2 : upd (fa_fill (fun b => nI (dcF f R a i b)) (S.2.1 115) (qF f)) (dfF f R a i) (nI (dcF f R a i (dfF f R a i) + 1)) = fa_fill (fun b => nI (dcF f R a (i + 1) b)) (S.2.1 115) (qF f) := by
          funext x
          by_cases e : x = dfF f R a i
          · subst e; rw [pk_us, fa_fill_in hb, hup1]
          · rw [pk_un e]
            by_cases hx : x < qF f
            · rw [fa_fill_in hx, fa_fill_in hx, hup2 x e]
            · rw [fa_fill_out (by omega), fa_fill_out (by omega)]
        have e3 : (uA S 115 (fa_fill (fun b => nI (dcF f R a (i + 1) b)) (S.2.1 115) (qF f))).2.1 115 (dfF f R a i) = nI (dcF f R a (i + 1) (dfF f R a i)) := by rw [uA_at, fa_fill_in hb]
        show fX4_spreadOf_47 _ (j + 1) 113 r (nI _) (nI a) (nI i) (qH A _) = _
        rw [fX4_spreadOf_47]
        simp (disch := omega) only [gr_113_2, q_bs, gi_1_2, uA_s, hz, nI_leI, c, ↓reduceIte]
        rw [ob_1, q_cv, tc_sum hf hT2 hlt ha, q_cal, q_vi, q_ai lr (by omega), q_bs, uA_ne hn, g3, q_ai lr (by omega), q_bs, uA_ne hn, g1, ob_1, q_cv, tc_dif hf hT2 g4 g2, q_cal, q_vi, gr_113_3, q_bs]
        rw [show ad f (R (ad f i a)) (ng f (R i)) = dfF f R a i from rfl]
        rw [q_ai ql_115 (by omega), q_bs, e1, nI_1, q_si ql_115 (by omega), q_bs, uaA, e2, gr_113_3, q_bs, q_ai ql_115 (by omega), q_bs, e3, q_let, nI_1]
        have e4 : (if nI (max (spF f R (a - 1)) (mxN (dcF f R a i) (qF f))) < nI (dcF f R a (i + 1) (dfF f R a i)) then nI (dcF f R a (i + 1) (dfF f R a i)) else nI (max (spF f R (a - 1)) (mxN (dcF f R a i) (qF f)))) = nI (max (spF f R (a - 1)) (mxN (dcF f R a (i + 1)) (qF f))) := by
          rw [hmx]
          by_cases hh : max (spF f R (a - 1)) (mxN (dcF f R a i) (qF f)) < dcF f R a (i + 1) (dfF f R a i)
          · rw [if_pos (nI_lt hh (by omega))]; congr 1; omega
          · rw [if_neg (nI_nlt (by omega) (by omega))]; congr 1; omega
        rw [e4]
      · intro j
        show fX4_spreadOf_47 _ (j + 1) 113 r (nI _) (nI a) (nI (qF f)) (qH A _) = _
        rw [fX4_spreadOf_47]
        simp (disch := omega) only [gr_113_2, q_bs, gi_1_2, uA_s, hz, nI_leI, Nat.le_refl, ↓reduceIte]
        rw [nI_1, ← es]
        exact a1
    rw [fX4_spreadOf_4]
    simp (disch := omega) only [gr_113_2, q_bs, gi_1_2, hz, nI_leI, c, ↓reduceIte]
    have h := loopF0 (fun j i s => fX4_spreadOf_18 (fun p0 p1 p2 p3 h => fX4_spreadOf_4 K p0 p1 p2 p3 h) j 113 r (nI (spF f R (a - 1))) (nI a) (nI i) (qH A s)) (qF f) (fun i => uA S 115 (fa_fill (fun _ => nI 0) (S.2.1 115) i)) (some (.inl (some (.int (nI (spF f R (qF f - 1))))), qH A S')) (by omega) ?_ ?_
    · rw [fa_fill_0, uA_self] at h
      exact h
    · intro j i hlt
      have c : ¬ qF f ≤ i := by omega
      show fX4_spreadOf_18 _ (j + 1) 113 r _ (nI a) (nI i) (qH A _) = _
      rw [fX4_spreadOf_18]
      simp (disch := omega) only [gr_113_2, gr_113_3, q_bs, gi_1_2, uA_s, hz, nI_leI, c, ↓reduceIte]
      rw [q_si ql_115 (by omega), q_bs, uaA, nI_1]
      have e9 : upd (fa_fill (fun _ => nI 0) (S.2.1 115) i) i 0 = fa_fill (fun _ => nI 0) (S.2.1 115) (i + 1) := fa_fill_succ (fun _ => nI 0) (S.2.1 115) i
      rw [e9]
    · intro j
      show fX4_spreadOf_18 _ (j + 1) 113 r _ (nI a) (nI (qF f)) (qH A _) = _
      rw [fX4_spreadOf_18]
      simp (disch := omega) only [gr_113_2, q_bs, gi_1_2, uA_s, hz, nI_leI, Nat.le_refl, ↓reduceIte]
      exact in2
theorem st_spread (hf : f < nF) (hT : TabC f S) {r : Nat} {R : Nat → Nat} (lr : qL A r 64) (hr : rowR f S r R) (hn : r ≠ 115) :
    ∃ S', fX4_spreadOf 113 r (qH A S) = some (.inl (some (.int (nI (spF f R (qF f - 1))))), qH A S') ∧ eqo (fun x => x = 115) S S' := by
  have hq := qz hf
  obtain ⟨S', a1, a2⟩ := st_spr4 (A := A) hf lr hn (qF f - 1) 1 FU S (by omega) (by decide) (by unfold FU; omega) hT hr
  refine ⟨S', ?_, a2⟩
  unfold fX4_spreadOf
  exact a1
end QS4
