/-! the reference's questions about one row -/
theorem TabM.eqo {f : Nat} {S S' : SS} {X : Nat → Prop} (hf : f < nF) (h : TabM f S) (hX : eqo X S S') (hn : ∀ b, b = 119 ∨ (133 < b ∧ b < 265) → ¬ X b) : TabM f S' := by
  have hq := qz hf
  obtain ⟨h1, h2, h3, h4, h5, h6, h7, h8⟩ := h
  have e0 := (hX.1 119 (hn 119 (Or.inl rfl))).1
  have er : ∀ b, 133 < b ∧ b < 265 → S'.2.1 b = S.2.1 b := fun b hb => (hX.1 b (hn b (Or.inr hb))).2
  exact ⟨fun a b ha hb => by rw [er _ (by omega)]; exact h1 a b ha hb, fun a b ha hb => by rw [er _ (by omega)]; exact h2 a b ha hb, fun a ha => by rw [er _ (by omega)]; exact h3 a ha, fun a ha h0 => by rw [er _ (by omega)]; exact h4 a ha h0, by rw [e0]; exact h5, by rw [e0]; exact h6, by rw [e0]; exact h7, by rw [e0]; exact h8⟩
theorem nowR.eqo {f i : Nat} {S S' : SS} {R : Nat → Nat} {X : Nat → Prop} (h : nowR f S i R) (hX : eqo X S S') (hn : ¬ X 122) : nowR f S' i R := fun x hx => by rw [(hX.1 122 hn).2]; exact h x hx
theorem ng_z {f a : Nat} (hf : f < nF) (ha : a < qF f) : ng f a = 0 ↔ a = 0 := by
  constructor
  · intro h
    have h1 := (ad_0 hf ha).2
    rw [h, (ad_0 hf ha).1.2] at h1
    exact h1
  · intro h
    rw [h]
    exact (fF f hf).2.2.2.2.1
section QMH
variable {A : AS} {S : SS} {f i : Nat} {R : Nat → Nat}
theorem m_spr58 (hf : f < nF) (hT : TabM f S) (hi : i < 6) (hr : nowR f S i R) {a b m : Nat} (ha : a < qF f) (hb : b < qF f) (hm : m ≤ 64) (K32 : Nat → Int32 → Int32 → Int32 → AH → RR) (K43 : Nat → Int32 → Int32 → Int32 → Int32 → AH → RR) : fX7_spread_58 K32 K43 FU 119 (nI i) (nI m) (nI a) (nI b) 0 0 (qH A S) = K43 119 (nI i) (nI (max m (dcF f R a (qF f) b))) (nI a) (nI (b + 1)) (qH A S) := by
  have hq := qz hf
  have hz : S.1 119 15 = nI (qF f) := hT.2.2.2.2.2.2.1
  have h := loopF0 (fun k s c => fX7_spread_58 K32 K43 k 119 (nI i) (nI m) (nI a) (nI b) (nI c) (nI s) (qH A S)) (qF f) (fun s => dcF f R a s b) (K43 119 (nI i) (nI (max m (dcF f R a (qF f) b))) (nI a) (nI (b + 1)) (qH A S)) (by omega) ?_ ?_
  · exact h
  · intro k s hs
    obtain ⟨s1, s2⟩ := tm_s (A := A) hf hT hs ha
    have l1 := ad_lt hf hs ha
    have l2 := (hr s hs).2
    have l3 := (hr _ l1).2
    have l4 : dfF f R a s < qF f := ad_lt hf l3 (ng_lt hf l2)
    show fX7_spread_58 K32 K43 (k + 1) 119 (nI i) (nI m) (nI a) (nI b) (nI (dcF f R a s b)) (nI s) (qH A S) = fX7_spread_58 K32 K43 k 119 (nI i) (nI m) (nI a) (nI b) (nI (fb_ct (fun s => dfF f R a s == b) (s + 1))) (nI (s + 1)) (qH A S)
    rw [fX7_spread_58]
    simp (disch := omega) only [gi_119_15, gr_119_17, q_bs, hz, nI_leI, if_neg (show ¬ qF f ≤ s by omega), s1, s2, ob_119, q_cv, m_at hf hi hr l1, q_cal, q_vi, m_at hf hi hr hs, m_apart hf hT l3 l2, nI_1]
    rw [fb_ct_succ, show ad f (R (ad f s a)) (ng f (R s)) = dfF f R a s from rfl]
    by_cases e : dfF f R a s = b
    · rw [if_pos (by rw [e]), if_pos (by simp [e])]
      rfl
    · rw [if_neg (by rw [nI_eq (by omega) (by omega)]; exact e), if_neg (by simp [e]), show (0 : Int32) = nI 0 from rfl, nI_add]
      rfl
  · intro k
    have hd := dc_le f R a (qF f) b
    show fX7_spread_58 K32 K43 (k + 1) 119 (nI i) (nI m) (nI a) (nI b) (nI (dcF f R a (qF f) b)) (nI (qF f)) (qH A S) = _
    rw [fX7_spread_58, gi_119_15, q_bs, hz, if_pos (by rw [nI_leI (by omega) (by omega)]; exact Nat.le_refl _), nI_1]
    by_cases e : dcF f R a (qF f) b ≤ m
    · rw [if_pos (by rw [nI_leI (by omega) (by omega)]; exact e), Nat.max_eq_left e]
    · rw [if_neg (by rw [nI_leI (by omega) (by omega)]; exact e), Nat.max_eq_right (by omega)]
theorem m_spr43 (hf : f < nF) (hT : TabM f S) (hi : i < 6) (hr : nowR f S i R) {a m : Nat} (ha : a < qF f) (hm : m ≤ 64) (K32 : Nat → Int32 → Int32 → Int32 → AH → RR) : fX7_spread_43 K32 FU 119 (nI i) (nI m) (nI a) 0 (qH A S) = K32 119 (nI i) (nI (max m (mxN (dcF f R a (qF f)) (qF f)))) (nI (a + 1)) (qH A S) := by
  have hq := qz hf
  have hz : S.1 119 15 = nI (qF f) := hT.2.2.2.2.2.2.1
  have h := loopF0 (fun k b c => fX7_spread_43 K32 k 119 (nI i) (nI c) (nI a) (nI b) (qH A S)) (qF f) (fun b => max m (mxN (dcF f R a (qF f)) b)) (K32 119 (nI i) (nI (max m (mxN (dcF f R a (qF f)) (qF f)))) (nI (a + 1)) (qH A S)) (by omega) ?_ ?_
  · simp only [show max m (mxN (dcF f R a (qF f)) 0) = m from Nat.max_eq_left (Nat.zero_le _)] at h
    exact h
  · intro k b hb
    have hl : mxN (dcF f R a (qF f)) b ≤ qF f := mx_le _ (fun x _ => dc_le f R _ _ x)
    show fX7_spread_43 K32 (k + 1) 119 (nI i) (nI (max m (mxN (dcF f R a (qF f)) b))) (nI a) (nI b) (qH A S) = fX7_spread_43 K32 k 119 (nI i) (nI (max m (max (mxN (dcF f R a (qF f)) b) (dcF f R a (qF f) b)))) (nI a) (nI (b + 1)) (qH A S)
    rw [fX7_spread_43, gi_119_15, q_bs, hz, if_neg (by rw [nI_leI (by omega) (by omega)]; omega), m_spr58 hf hT hi hr ha hb (by omega), Nat.max_assoc]
  · intro k
    show fX7_spread_43 K32 (k + 1) 119 (nI i) _ (nI a) (nI (qF f)) (qH A S) = _
    rw [fX7_spread_43, gi_119_15, q_bs, hz, if_pos (by rw [nI_leI (by omega) (by omega)]; exact Nat.le_refl _), nI_1]
theorem m_spread (hf : f < nF) (hT : TabM f S) (hi : i < 6) (hr : nowR f S i R) : fX7_spread_32 FU 119 (nI i) 0 1 (qH A S) = some (.inl (some (.int (nI (spF f R (qF f - 1))))), qH A S) := by
  have hq := qz hf
  have hz : S.1 119 15 = nI (qF f) := hT.2.2.2.2.2.2.1
  have h := loopF0 (fun k j c => fX7_spread_32 k 119 (nI i) (nI c) (nI (j + 1)) (qH A S)) (qF f - 1) (fun j => spF f R j) (some (.inl (some (.int (nI (spF f R (qF f - 1))))), qH A S)) (by omega) ?_ ?_
  · exact h
  · intro k j hj
    have hl := sp_le f R j
    show fX7_spread_32 (k + 1) 119 (nI i) (nI (spF f R j)) (nI (j + 1)) (qH A S) = fX7_spread_32 k 119 (nI i) (nI (max (spF f R j) (mxN (dcF f R (j + 1) (qF f)) (qF f)))) (nI (j + 1 + 1)) (qH A S)
    rw [fX7_spread_32, gi_119_15, q_bs, hz, if_neg (by rw [nI_leI (by omega) (by omega)]; omega), m_spr43 hf hT hi hr (by omega) (by omega)]
  · intro k
    show fX7_spread_32 (k + 1) 119 (nI i) _ (nI (qF f - 1 + 1)) (qH A S) = _
    rw [fX7_spread_32, gi_119_15, q_bs, hz, if_pos (by rw [nI_leI (by omega) (by omega)]; omega)]
theorem m_takes (hf : f < nF) (hz : S.1 119 15 = nI (qF f)) (hi : i < 6) (hr : nowR f S i R) : fX7_takesValues 119 (nI i) (qH A S) = some (.inl none, qH A (uA S 266 (fa_fill (fun x => nI (R x)) (S.2.1 266) (qF f)))) := by
  have hq := qz hf
  unfold fX7_takesValues
  have h := loopF0 (fun k x s => fX7_takesValues_2 k 119 (nI i) (nI x) (qH A s)) (qF f) (fun x => uA S 266 (fa_fill (fun x => nI (R x)) (S.2.1 266) x)) (some (.inl none, qH A (uA S 266 (fa_fill (fun x => nI (R x)) (S.2.1 266) (qF f))))) (by omega) ?_ ?_
  · rw [fa_fill_0, uA_self] at h
    exact h
  · intro k x hx
    have hr2 : nowR f (uA S 266 (fa_fill (fun x => nI (R x)) (S.2.1 266) x)) i R := hr.eqo (eqo.uA (X := fun b => b = 266) rfl) (by decide)
    show fX7_takesValues_2 (k + 1) 119 (nI i) (nI x) (qH A _) = _
    rw [fX7_takesValues_2, gi_119_15, q_bs, uA_s, hz, if_neg (by rw [nI_leI (by omega) (by omega)]; omega), gr_119_24, q_bs, ob_119, q_cv, m_at hf hi hr2 hx, q_cal, q_vi, q_si ql_266 (by omega), q_bs, uaA, nI_1]
    rw [show upd (fa_fill (fun x => nI (R x)) (S.2.1 266) x) x (nI (R x)) = fa_fill (fun x => nI (R x)) (S.2.1 266) (x + 1) from fa_fill_succ (fun x => nI (R x)) (S.2.1 266) x]
  · intro k
    show fX7_takesValues_2 (k + 1) 119 (nI i) (nI (qF f)) (qH A _) = _
    rw [fX7_takesValues_2, gi_119_15, q_bs, uA_s, hz, if_pos (by rw [nI_leI (by omega) (by omega)]; exact Nat.le_refl _)]
theorem m_deg (hf : f < nF) (hT : TabM f S) (hr : rowR f S 266 R) : ∀ k K, k < qF f → k + 1 < K → fX7_degree_40 K 119 (nI k) (qH A S) = some (.inl (some (.int (dgF f R k))), qH A S) := by
  have hq := qz hf
  intro k
  induction k with
  | zero =>
    intro K hk hK
    obtain ⟨K, rfl⟩ : ∃ k', K = k' + 2 := ⟨K - 2, by omega⟩
    rw [fX7_degree_40, if_neg (nI_pos (by omega)), ob_119, q_cv, m_coef hf hT hr hk, if_pos rfl, q_cal, q_vi]
    have h0 := (hr 0 hk).2
    show _ = some (Sum.inl (some (Value.int (if R 0 = 0 then -1 else 0))), qH A S)
    by_cases c : R 0 = 0
    · rw [if_pos c, if_pos (by rw [c]; rfl), fX7_degree_40, if_pos (by decide)]
      rfl
    · rw [if_neg c, if_neg (by rw [qlit, nI_eq (by omega) (by decide)]; exact c)]
      rfl
  | succ k ih =>
    intro K hk hK
    obtain ⟨K, rfl⟩ : ∃ k', K = k' + 1 := ⟨K - 1, by omega⟩
    have l1 : cfF f R (k + 1) < qF f := cf_lt (g := qF f - 1 - (k + 1)) hf (fun x hx => (hr x hx).2) (qF f) (Nat.le_refl _)
    have l2 := ng_lt hf l1
    rw [fX7_degree_40, if_neg (nI_pos (by omega)), ob_119, q_cv, m_coef hf hT hr hk, if_neg (by omega), q_cal, q_vi]
    show _ = some (Sum.inl (some (Value.int (if cfF f R (k + 1) = 0 then dgF f R k else nI (k + 1)))), qH A S)
    by_cases c : cfF f R (k + 1) = 0
    · rw [if_pos c, if_pos (by rw [(ng_z hf l1).mpr c]; rfl), pk_m1, ih K (by omega) (by omega)]
    · rw [if_neg c, if_neg (by rw [qlit, nI_eq (by omega) (by decide)]; exact fun h => c ((ng_z hf l1).mp h))]
theorem fs_cong {g h : Nat → Nat} : ∀ n, (∀ x, x < n → g x = h x) → fsF f g n = fsF f h n
  | 0, _ => rfl
  | n + 1, e => by rw [fsF, fsF, fs_cong n (fun x hx => e x (by omega)), e n (by omega)]
theorem m_pow66 (hf : f < nF) (hT : TabM f S) (hi : i < 6) (hr : nowR f S i R) {t : Nat} (ht : t < 64) (K42 : Nat → Int32 → Int32 → AH → RR) : fX7_powers_66 K42 FU 119 (nI i) (nI t) 0 (qH A S) = if fsF f (fun x => pw f (R x) t) (qF f) = 0 then K42 119 (nI i) (nI (t + 1)) (qH A (uA S 266 (fa_fill (fun x => nI (pw f (R x) t)) (S.2.1 266) (qF f)))) else some (.inl (some (.int (nI t))), qH A (uA S 266 (fa_fill (fun x => nI (pw f (R x) t)) (S.2.1 266) (qF f)))) := by
  have hq := qz hf
  have hz : S.1 119 15 = nI (qF f) := hT.2.2.2.2.2.2.1
  have hX : ∀ g, eqo (fun b => b = 266) S (uA S 266 g) := fun g => eqo.uA (X := fun b => b = 266) rfl
  have hTX : ∀ g, TabM f (uA S 266 g) := fun g => hT.eqo hf (hX g) (fun b hb (e : b = 266) => by omega)
  have hrX : ∀ g, nowR f (uA S 266 g) i R := fun g => hr.eqo (hX g) (by decide)
  have h := loopF0 (fun k x s => fX7_powers_66 K42 k 119 (nI i) (nI t) (nI x) (qH A s)) (qF f) (fun x => uA S 266 (fa_fill (fun x => nI (pw f (R x) t)) (S.2.1 266) x)) (if fsF f (fun x => pw f (R x) t) (qF f) = 0 then K42 119 (nI i) (nI (t + 1)) (qH A (uA S 266 (fa_fill (fun x => nI (pw f (R x) t)) (S.2.1 266) (qF f)))) else some (.inl (some (.int (nI t))), qH A (uA S 266 (fa_fill (fun x => nI (pw f (R x) t)) (S.2.1 266) (qF f))))) (by omega) ?_ ?_
  · rw [fa_fill_0, uA_self] at h
    exact h
  · intro k x hx
    show fX7_powers_66 K42 (k + 1) 119 (nI i) (nI t) (nI x) (qH A _) = _
    rw [fX7_powers_66, gi_119_15, q_bs, uA_s, hz, if_neg (by rw [nI_leI (by omega) (by omega)]; omega), gr_119_24, q_bs, ob_119, q_cv, m_at hf hi (hrX _) hx, q_cal, q_vi, ob_119, q_cv, m_raisedPoint hf (hTX _) (by omega) (hr x hx).2, q_cal, q_vi, q_si ql_266 (by omega), q_bs, uaA, nI_1]
    rw [show upd (fa_fill (fun x => nI (pw f (R x) t)) (S.2.1 266) x) x (nI (pw f (R x) t)) = fa_fill (fun x => nI (pw f (R x) t)) (S.2.1 266) (x + 1) from fa_fill_succ (fun x => nI (pw f (R x) t)) (S.2.1 266) x]
  · intro k
    have hr2 : rowR f (uA S 266 (fa_fill (fun x => nI (pw f (R x) t)) (S.2.1 266) (qF f))) 266 (fun x => pw f (R x) t) := rowR.fill (fun x hx => pw_lt hf (hr x hx).2 t)
    have e1 : nI (qF f) - 1 = nI (qF f - 1) := pk_sub (b := 1) (by omega)
    have e2 : cfF f (fun x => pw f (R x) t) (qF f - 1) = fsF f (fun x => pw f (R x) t) (qF f) := by
      unfold cfF
      refine fs_cong _ (fun x hx => ?_)
      show mu f (pw f (R x) t) (pw f x (qF f - 1 - (qF f - 1))) = _
      rw [Nat.sub_self]
      exact (mu_0 hf (pw_lt hf (hr x hx).2 t)).2
    have l1 : fsF f (fun x => pw f (R x) t) (qF f) < qF f := fs_lt hf _ (fun x hx => pw_lt hf (hr x hx).2 t)
    have l2 := ng_lt hf l1
    show fX7_powers_66 K42 (k + 1) 119 (nI i) (nI t) (nI (qF f)) (qH A _) = _
    rw [fX7_powers_66, gi_119_15, q_bs, uA_s, hz, if_pos (by rw [nI_leI (by omega) (by omega)]; exact Nat.le_refl _), q_bs, e1, ob_119, q_cv, m_coef hf (hTX _) hr2 (by omega), if_neg (by omega), q_cal, q_vi, e2, nI_1]
    by_cases c : fsF f (fun x => pw f (R x) t) (qF f) = 0
    · rw [if_pos c, if_pos (by rw [(ng_z hf l1).mpr c]; rfl)]
    · rw [if_neg c, if_neg (by rw [qlit, nI_eq (by omega) (by decide)]; exact fun h => c ((ng_z hf l1).mp h))]
theorem m_pow (hf : f < nF) (hi : i < 6) : ∀ d t K S, t + d = qF f - 1 → 1 ≤ t → d < K → TabM f S → nowR f S i R → ∃ S', fX7_powers_42 K 119 (nI i) (nI t) (qH A S) = some (.inl (some (.int (pwsF f R d t))), qH A S') ∧ eqo (fun x => x = 266) S S' := by
  have hq := qz hf
  intro d
  induction d with
  | zero =>
    intro t K S h1 h2 h3 hT hr
    obtain ⟨K, rfl⟩ : ∃ k', K = k' + 1 := ⟨K - 1, by omega⟩
    have hz : S.1 119 15 = nI (qF f) := hT.2.2.2.2.2.2.1
    have e1 : nI (qF f) - 1 = nI (qF f - 1) := pk_sub (b := 1) (by omega)
    refine ⟨S, ?_, eqo.rf⟩
    rw [fX7_powers_42, gi_119_15, q_bs, hz, e1, if_pos (by rw [nI_leI (by omega) (by omega)]; omega)]
    rfl
  | succ d ih =>
    intro t K S h1 h2 h3 hT hr
    obtain ⟨K, rfl⟩ : ∃ k', K = k' + 1 := ⟨K - 1, by omega⟩
    have hz : S.1 119 15 = nI (qF f) := hT.2.2.2.2.2.2.1
    have hp : S.1 119 13 = nI (pF f) := hT.2.2.2.2.1
    have e1 : nI (qF f) - 1 = nI (qF f - 1) := pk_sub (b := 1) (by omega)
    have hX : eqo (fun b => b = 266) S (uA S 266 (fa_fill (fun x => nI (pw f (R x) t)) (S.2.1 266) (qF f))) := eqo.uA (X := fun b => b = 266) rfl
    have base : fX7_powers_42 (K + 1) 119 (nI i) (nI t) (qH A S) = if t % pF f = 0 then fX7_powers_42 K 119 (nI i) (nI (t + 1)) (qH A S) else if fsF f (fun x => pw f (R x) t) (qF f) = 0 then fX7_powers_42 K 119 (nI i) (nI (t + 1)) (qH A (uA S 266 (fa_fill (fun x => nI (pw f (R x) t)) (S.2.1 266) (qF f)))) else some (.inl (some (.int (nI t))), qH A (uA S 266 (fa_fill (fun x => nI (pw f (R x) t)) (S.2.1 266) (qF f)))) := by
      rw [fX7_powers_42, gi_119_15, q_bs, hz, e1, if_neg (by rw [nI_leI (by omega) (by omega)]; omega), gi_119_13, q_bs, hp, if_neg (nI_ne0 (by omega) (by omega)), pk_rem (by omega) (by omega) (by omega), nI_1, m_pow66 hf hT hi hr (by omega)]
      have hl := Nat.mod_lt t (show 0 < pF f by omega)
      by_cases c : t % pF f = 0
      · rw [if_pos c, if_pos (by rw [c]; rfl)]
      · rw [if_neg c, if_neg (by rw [qlit, nI_eq (by omega) (by decide)]; exact c)]
    rw [base]
    show ∃ S', _ = some (Sum.inl (some (Value.int (if fsF f (fun x => pw f (R x) t) (qF f) = 0 ∨ t % pF f = 0 then pwsF f R d (t + 1) else nI t))), qH A S') ∧ _
    by_cases c : t % pF f = 0
    · rw [if_pos c, if_pos (Or.inr c)]
      exact ih (t + 1) K S (by omega) (by omega) (by omega) hT hr
    · rw [if_neg c]
      by_cases c2 : fsF f (fun x => pw f (R x) t) (qF f) = 0
      · rw [if_pos c2, if_pos (Or.inl c2)]
        obtain ⟨S', a1, a2⟩ := ih (t + 1) K _ (by omega) (by omega) (by omega) (hT.eqo hf hX (fun b hb (e : b = 266) => by omega)) (hr.eqo hX (by decide))
        exact ⟨S', a1, hX.tr a2⟩
      · rw [if_neg c2, if_neg (by rintro (h | h); exact c2 h; exact c h)]
        exact ⟨_, rfl, hX⟩
end QMH
