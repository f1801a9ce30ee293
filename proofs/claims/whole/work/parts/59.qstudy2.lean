/-! the component's questions, part 2 -/
/-- the values met, as bits -/
def ms (R : Nat → Nat) : Nat → Nat
  | 0 => 0
  | n + 1 => ms R n ||| 2 ^ R n
theorem ms_lt {R : Nat → Nat} : ∀ n, (∀ x, x < n → R x < 64) → ms R n < 2 ^ 64
  | 0, _ => by show 0 < 2 ^ 64; decide
  | n + 1, h => Nat.or_lt_two_pow (ms_lt n (fun x hx => h x (by omega))) (Nat.pow_lt_pow_right (by decide) (h n (by omega)))
theorem ms_bit {R : Nat → Nat} (v : Nat) : ∀ n, (ms R n).testBit v = true ↔ ∃ x, x < n ∧ R x = v
  | 0 => by simp [ms]
  | n + 1 => by
    rw [ms, fb_bit_set]
    simp only [Bool.or_eq_true, decide_eq_true_eq, ms_bit v n]
    constructor
    · rintro (⟨x, h1, h2⟩ | h)
      · exact ⟨x, by omega, h2⟩
      · exact ⟨n, by omega, h.symm⟩
    · rintro ⟨x, h1, h2⟩
      by_cases e : x = n
      · subst e; exact Or.inr h2.symm
      · exact Or.inl ⟨x, by omega, h2⟩
def img (q : Nat) (R : Nat → Nat) : Nat := fb_ct (fun v => (ms R q).testBit v) q
theorem img_ct {q : Nat} {R : Nat → Nat} (hq : q ≤ 64) (h : ∀ x, x < q → R x < q) : ctB (ms R q) = img q R := by
  unfold ctB img
  have e : 64 = q + (64 - q) := by omega
  rw [e, fb_ct_split]
  have : fb_ct (fun k => (ms R q).testBit (q + k)) (64 - q) = 0 := by
    rw [fb_ct_zero]
    intro k _
    cases hb : (ms R q).testBit (q + k) with
    | false => rfl
    | true =>
      obtain ⟨x, h1, h2⟩ := (ms_bit (q + k) q).mp hb
      have := h x h1
      omega
  rw [this, Nat.add_zero]
theorem q_sh1 {k : Nat} (hk : k < 64) : (1 : Int64) <<< ((nI k).toInt64 &&& 63) = lN (2 ^ k) := by
  have := wb_shl 1 hk
  rw [Nat.one_mul] at this
  exact this
/-- sums in the field, from the left -/
def fsF (f : Nat) (g : Nat → Nat) : Nat → Nat
  | 0 => 0
  | n + 1 => ad f (fsF f g n) (g n)
theorem fs_lt {f : Nat} {g : Nat → Nat} (hf : f < nF) : ∀ n, (∀ x, x < n → g x < qF f) → fsF f g n < qF f
  | 0, _ => by have := q1 hf; unfold fsF; omega
  | n + 1, h => ad_lt hf (fs_lt hf n (fun x hx => h x (by omega))) (h n (by omega))
section QK
variable {A : AS} {S : SS} {f : Nat}
theorem st_image (hf : f < nF) (hz : S.1 1 2 = nI (qF f)) {r : Nat} {R : Nat → Nat} (lr : qL A r 64) (hr : rowR f S r R) : fX4_imageOf 113 r (qH A S) = some (.inl (some (.int (nI (img (qF f) R)))), qH A S) := by
  have hq := qz hf
  have hm : ∀ i, i ≤ qF f → ms R i < 2 ^ 64 := fun i hi => ms_lt i (fun x hx => by have := (hr x (by omega)).2; omega)
  unfold fX4_imageOf
  have h := loopF0 (fun k i w => fX4_imageOf_5 k 113 r w (nI i) (qH A S)) (qF f) (fun i => lN (ms R i)) (some (.inl (some (.int (nI (img (qF f) R)))), qH A S)) (by omega) ?_ ?_
  · exact h
  · intro k i hlt
    have c : ¬ qF f ≤ i := by omega
    have hl := (hr i hlt).2
    show fX4_imageOf_5 (k + 1) 113 r (lN (ms R i)) (nI i) (qH A S) = _
    rw [fX4_imageOf_5]
    simp (disch := omega) only [gr_113_2, q_bs, gi_1_2, hz, nI_leI, c, ↓reduceIte]
    rw [q_ai lr (by omega), q_bs, (hr i hlt).1, q_letJ, q_sh1 (by omega), wb_or (hm i (by omega)) (Nat.pow_lt_pow_right (by decide) (by omega)), nI_1]
    rfl
  · intro k
    show fX4_imageOf_5 (k + 1) 113 r (lN (ms R (qF f))) (nI (qF f)) (qH A S) = _
    rw [fX4_imageOf_5]
    simp (disch := omega) only [gr_113_2, q_bs, gi_1_2, hz, nI_leI, Nat.le_refl, ↓reduceIte]
    rw [pc_bit (hm _ (Nat.le_refl _)), q_cal, q_vi, img_ct hq.1 (fun x hx => (hr x hx).2)]
theorem img_le (q : Nat) (R : Nat → Nat) : img q R ≤ q := fb_ct_le _ _
def pmB (q : Nat) (R : Nat → Nat) : Bool := img q R == q
theorem st_perm (hf : f < nF) (hz : S.1 1 2 = nI (qF f)) {r : Nat} {R : Nat → Nat} (lr : qL A r 64) (hr : rowR f S r R) : fX4_isPermuting 113 r (qH A S) = some (.inl (some (.int (if pmB (qF f) R = true then 1 else 0))), qH A S) := by
  have hq := qz hf
  have hi := img_le (qF f) R
  unfold fX4_isPermuting
  simp only [ob_113, q_cv, st_image hf hz lr hr, q_cal, q_vi, gr_113_2, q_bs, gi_1_2, hz]
  by_cases c : img (qF f) R = qF f
  · rw [c, if_pos rfl]
    unfold zbr
    rw [if_pos (Or.inr rfl), if_pos (by unfold pmB; simp [c])]
  · rw [if_neg (by rw [nI_eq (by omega) (by omega)]; exact c)]
    unfold zbr
    rw [if_pos (Or.inl rfl), if_neg (by unfold pmB; simp [c])]
def cfF (f : Nat) (R : Nat → Nat) (k : Nat) : Nat := fsF f (fun x => mu f (R x) (pw f x (qF f - 1 - k))) (qF f)
theorem cf_lt (hf : f < nF) {R : Nat → Nat} {g : Nat} (h : ∀ x, x < qF f → R x < qF f) : ∀ n, n ≤ qF f → fsF f (fun x => mu f (R x) (pw f x g)) n < qF f := fun n hn => fs_lt hf n (fun x hx => mu_lt hf (h x (by omega)) (pw_lt hf (by omega) _))
theorem st_coef (hf : f < nF) (hT : TabC f S) {r k : Nat} {R : Nat → Nat} (lr : qL A r 64) (hr : rowR f S r R) (hk : k < qF f) : fX4_coefficientOf 113 r (nI k) (qH A S) = some (.inl (some (.int (nI (if k = 0 then R 0 else ng f (cfF f R k))))), qH A S) := by
  have hq := qz hf
  have hz : S.1 1 2 = nI (qF f) := hT.2.2.2.2.2.2.1
  unfold fX4_coefficientOf
  by_cases c0 : k = 0
  · subst c0
    rw [if_pos (by rfl), if_pos rfl]
    rw [show (0 : Int32) = nI 0 from rfl, q_ai lr (by omega), q_bs, (hr 0 (by omega)).1]
  · rw [if_neg (by rw [qlit, nI_eq (by omega) (by decide)]; exact c0), if_neg c0]
    have h := loopF0 (fun j i s => fX4_coefficientOf_13 j 113 r (nI k) (nI s) (nI i) (qH A S)) (qF f) (fun i => fsF f (fun x => mu f (R x) (pw f x (qF f - 1 - k))) i) (some (.inl (some (.int (nI (ng f (cfF f R k))))), qH A S)) (by omega) ?_ ?_
    · exact h
    · intro j i hlt
      have c : ¬ qF f ≤ i := by omega
      obtain ⟨h1, h2⟩ := hr i hlt
      have l1 := cf_lt (g := qF f - 1 - k) hf (fun x hx => (hr x hx).2) i (by omega)
      have l2 := pw_lt hf hlt (qF f - 1 - k)
      show fX4_coefficientOf_13 (j + 1) 113 r (nI k) (nI _) (nI i) (qH A S) = _
      rw [fX4_coefficientOf_13]
      simp (disch := omega) only [gr_113_2, q_bs, gi_1_2, hz, nI_leI, c, ↓reduceIte]
      rw [q_ai lr (by omega), q_bs, h1]
      simp (disch := omega) only [qlit, pk_sub, ob_1, q_cv, tc_raised hf hT (show qF f - 1 - k < 20000 by omega) hlt, q_cal, q_vi, tc_mul hf hT h2 l2, tc_sum hf hT l1 (mu_lt hf h2 l2), nI_add]
      rfl
    · intro j
      have l1 := cf_lt (g := qF f - 1 - k) hf (fun x hx => (hr x hx).2) (qF f) (Nat.le_refl _)
      show fX4_coefficientOf_13 (j + 1) 113 r (nI k) (nI _) (nI (qF f)) (qH A S) = _
      rw [fX4_coefficientOf_13]
      simp (disch := omega) only [gr_113_2, gr_1_6, q_bs, gi_1_2, hz, nI_leI, Nat.le_refl, ↓reduceIte]
      rw [q_ai ql_4 (by omega), q_bs, hT.2.1 _ l1]
      rfl
/-- the degree, from above -/
def dgF (f : Nat) (R : Nat → Nat) : Nat → Int32
  | 0 => if R 0 = 0 then -1 else 0
  | k + 1 => if cfF f R (k + 1) = 0 then dgF f R k else nI (k + 1)
theorem st_deg38 (hf : f < nF) {r : Nat} {R : Nat → Nat} (lr : qL A r 64) (hn : r ≠ 116) : ∀ k K S, k < qF f → k < K → TabC f S → rowR f S r R → rowR f S 116 (fun s => pw f s (qF f - 1 - k)) →
    ∃ S', fX4_degreeOf_38 K 113 r 116 (nI k) (qH A S) = some (.inl (some (.int (dgF f R k))), qH A S') ∧ eqo (fun x => x = 116) S S' := by
  have hq := qz hf
  intro k
  induction k with
  | zero =>
    intro K S h1 h2 hT hr hw
    obtain ⟨K, rfl⟩ : ∃ k', K = k' + 1 := ⟨K - 1, by omega⟩
    refine ⟨S, ?_, eqo.rf⟩
    rw [fX4_degreeOf_38, if_pos (by decide), show (0 : Int32) = nI 0 from rfl, q_ai lr (by omega), q_bs, (hr 0 (by omega)).1]
    unfold dgF
    have := (hr 0 (by omega)).2
    by_cases c : R 0 = 0
    · rw [if_pos (by rw [c]), if_pos c]
    · rw [if_neg (by rw [nI_eq (by omega) (by decide)]; exact c), if_neg c]
      rfl
  | succ k ih =>
    intro K S h1 h2 hT hr hw
    obtain ⟨K, rfl⟩ : ∃ k', K = k' + 1 := ⟨K - 1, by omega⟩
    have hz : S.1 1 2 = nI (qF f) := hT.2.2.2.2.2.2.1
    rw [fX4_degreeOf_38, if_neg (by rw [qlit, nI_leI (by omega) (by decide)]; omega)]
    have eq1 : qF f - 1 - k = (qF f - 1 - (k + 1)) + 1 := by omega
    let S1 := uA S 116 (fa_fill (fun j => nI (pw f j (qF f - 1 - k))) (S.2.1 116) (qF f))
    have inner : ∀ o, (if cfF f R (k + 1) = 0 then fX4_degreeOf_38 K 113 r 116 (nI k) (qH A S1) else some (.inl (some (.int (nI (k + 1)))), qH A S1)) = o → fX4_degreeOf_48 (fun p0 p1 p2 p3 h => fX4_degreeOf_38 K p0 p1 p2 p3 h) FU 113 r 116 (nI (k + 1)) 0 0 (qH A S) = o := by
      intro o ho
      have h := loopF0 (fun j i (s : Nat × SS) => fX4_degreeOf_48 (fun p0 p1 p2 p3 h => fX4_degreeOf_38 K p0 p1 p2 p3 h) j 113 r 116 (nI (k + 1)) (nI s.1) (nI i) (qH A s.2)) (qF f) (fun i => (fsF f (fun x => mu f (R x) (pw f x (qF f - 1 - (k + 1)))) i, uA S 116 (fa_fill (fun j => nI (pw f j (qF f - 1 - k))) (S.2.1 116) i))) o (by omega) ?_ ?_
      · rw [fa_fill_0, uA_self] at h
        exact h
      · intro j i hlt
        have c : ¬ qF f ≤ i := by omega
        obtain ⟨g1, g2⟩ := hr i hlt
        obtain ⟨w1, w2⟩ := hw i hlt
        have l1 := cf_lt (g := qF f - 1 - (k + 1)) hf (fun x hx => (hr x hx).2) i (by omega)
        have hT1 : TabC f (uA S 116 (fa_fill (fun j => nI (pw f j (qF f - 1 - k))) (S.2.1 116) i)) := hT.uA (by decide)
        have e1 : (uA S 116 (fa_fill (fun j => nI (pw f j (qF f - 1 - k))) (S.2.1 116) i)).2.1 116 i = nI (pw f i (qF f - 1 - (k + 1))) := by rw [uA_at, fa_fill_out (Nat.le_refl _)]; exact w1
        have e2 : (uA S 116 (fa_fill (fun j => nI (pw f j (qF f - 1 - k))) (S.2.1 116) i)).2.1 r i = nI (R i) := by rw [uA_ne hn]; exact g1
        have e3 : mu f (pw f i (qF f - 1 - (k + 1))) i = pw f i (qF f - 1 - k) := by rw [eq1]; rfl
        show fX4_degreeOf_48 _ (j + 1) 113 r 116 (nI (k + 1)) (nI _) (nI i) (qH A _) = _
        rw [fX4_degreeOf_48]
        simp (disch := omega) only [gr_113_2, q_bs, gi_1_2, uA_s, hz, nI_leI, c, ↓reduceIte]
        rw [q_ai lr (by omega), q_bs, e2, q_ai ql_116 (by omega), q_bs, e1]
        simp only [ob_1, q_cv, tc_mul hf hT1 g2 w2, q_cal, q_vi, tc_sum hf hT1 l1 (mu_lt hf g2 w2), gr_113_2, q_bs]
        rw [q_ai ql_116 (by omega), q_bs, e1, tc_mul hf hT1 w2 hlt, q_cal, q_vi, q_si ql_116 (by omega), q_bs, uaA, e3, fa_fill_succ (fun j => nI (pw f j (qF f - 1 - k))), nI_1]
        rfl
      · intro j
        have l1 := cf_lt (g := qF f - 1 - (k + 1)) hf (fun x hx => (hr x hx).2) (qF f) (Nat.le_refl _)
        show fX4_degreeOf_48 _ (j + 1) 113 r 116 (nI (k + 1)) (nI _) (nI (qF f)) (qH A _) = _
        rw [fX4_degreeOf_48]
        simp (disch := omega) only [gr_113_2, q_bs, gi_1_2, uA_s, hz, nI_leI, Nat.le_refl, ↓reduceIte]
        rw [← ho, pk_m1]
        by_cases c : cfF f R (k + 1) = 0
        · rw [if_pos c, if_pos (by unfold cfF at c; rw [c]; rfl)]
        · rw [if_neg c, if_neg (by rw [qlit, nI_eq (by omega) (by decide)]; exact c)]
    by_cases c : cfF f R (k + 1) = 0
    · obtain ⟨S', a1, a2⟩ := ih K S1 (by omega) (by omega) (hT.uA (by decide)) (hr.ne hn) (rowR.fill (fun x hx => pw_lt hf hx _))
      refine ⟨S', ?_, (eqo.uA (X := fun x => x = 116) rfl).tr a2⟩
      rw [inner _ (if_pos c), a1]
      unfold dgF
      rw [if_pos c]
      cases k <;> rfl
    · refine ⟨S1, ?_, eqo.uA rfl⟩
      rw [inner _ (if_neg c)]
      unfold dgF
      rw [if_neg c]
theorem st_degree (hf : f < nF) (hT : TabC f S) {r : Nat} {R : Nat → Nat} (lr : qL A r 64) (hr : rowR f S r R) (hn : r ≠ 116) :
    ∃ S', fX4_degreeOf 113 r (qH A S) = some (.inl (some (.int (dgF f R (qF f - 1)))), qH A S') ∧ eqo (fun x => x = 116) S S' := by
  have hq := qz hf
  have hz : S.1 1 2 = nI (qF f) := hT.2.2.2.2.2.2.1
  obtain ⟨S', a1, a2⟩ := st_deg38 (A := A) hf lr hn (qF f - 1) FU (uA S 116 (fa_fill (fun j => nI (pw f j 0)) (S.2.1 116) (qF f))) (by omega) (by unfold FU; omega) (hT.uA (by decide)) (hr.ne hn) (by rw [Nat.sub_self]; exact rowR.fill (fun x hx => pw_lt hf hx _))
  refine ⟨S', ?_, (eqo.uA (X := fun x => x = 116) rfl).tr a2⟩
  unfold fX4_degreeOf
  simp only [gr_113_4, q_bs]
  have h := loopF0 (fun j i s => fX4_degreeOf_7 j 113 r 116 (nI i) (qH A s)) (qF f) (fun i => uA S 116 (fa_fill (fun j => nI (pw f j 0)) (S.2.1 116) i)) (some (.inl (some (.int (dgF f R (qF f - 1)))), qH A S')) (by omega) ?_ ?_
  · rw [fa_fill_0, uA_self] at h
    exact h
  · intro j i hlt
    have c : ¬ qF f ≤ i := by omega
    show fX4_degreeOf_7 (j + 1) 113 r 116 (nI i) (qH A _) = _
    rw [fX4_degreeOf_7]
    simp (disch := omega) only [gr_113_2, q_bs, gi_1_2, uA_s, hz, nI_leI, c, ↓reduceIte]
    rw [q_si ql_116 (by omega), q_bs, uaA, show (1 : Int32) = nI (pw f i 0) from rfl, fa_fill_succ (fun j => nI (pw f j 0)), show nI (pw f i 0) = 1 from rfl, nI_1]
  · intro j
    show fX4_degreeOf_7 (j + 1) 113 r 116 (nI (qF f)) (qH A _) = _
    rw [fX4_degreeOf_7]
    simp (disch := omega) only [gr_113_2, q_bs, gi_1_2, uA_s, hz, nI_leI, Nat.le_refl, ↓reduceIte]
    rw [qlit, pk_sub (by omega)]
    exact a1
/-- the first power that tells, from t on -/
def pwsF (f : Nat) (R : Nat → Nat) : Nat → Nat → Int32
  | 0, _ => -1
  | d + 1, t => if fsF f (fun x => pw f (R x) t) (qF f) = 0 ∨ t % pF f = 0 then pwsF f R d (t + 1) else nI t
theorem st_pow45 (hf : f < nF) {r : Nat} {R : Nat → Nat} (lr : qL A r 64) (hn : r ≠ 116) : ∀ d t K S, t + d = qF f - 1 → 1 ≤ t → d < K → TabC f S → rowR f S r R → rowR f S 116 (fun s => pw f (R s) (t - 1)) →
    ∃ S', fX4_powersOf_45 K 113 r 116 (nI ((t - 1) % pF f)) (nI t) (qH A S) = some (.inl (some (.int (pwsF f R d t))), qH A S') ∧ eqo (fun x => x = 116) S S' := by
  have hq := qz hf
  intro d
  induction d with
  | zero =>
    intro t K S h1 ht h2 hT hr hw
    obtain ⟨K, rfl⟩ : ∃ k', K = k' + 1 := ⟨K - 1, by omega⟩
    have hz : S.1 1 2 = nI (qF f) := hT.2.2.2.2.2.2.1
    refine ⟨S, ?_, eqo.rf⟩
    have c : qF f - 2 < t := by omega
    rw [fX4_powersOf_45]
    simp (disch := omega) only [gr_113_2, q_bs, gi_1_2, hz, qlit, pk_sub, nI_ltI, c, ↓reduceIte]
    rfl
  | succ d ih =>
    intro t K S h1 ht h2 hT hr hw
    obtain ⟨K, rfl⟩ : ∃ k', K = k' + 1 := ⟨K - 1, by omega⟩
    have hz : S.1 1 2 = nI (qF f) := hT.2.2.2.2.2.2.1
    have hp : S.1 1 0 = nI (pF f) := hT.2.2.2.2.1
    have m1 := Nat.mod_lt (t - 1) (show 0 < pF f by omega)
    have c : ¬ qF f - 2 < t := by omega
    let S1 := uA S 116 (fa_fill (fun j => nI (pw f (R j) t)) (S.2.1 116) (qF f))
    have et : t = (t - 1) + 1 := by omega
    have inner : ∀ o, (if fsF f (fun x => pw f (R x) t) (qF f) = 0 ∨ t % pF f = 0 then fX4_powersOf_45 K 113 r 116 (nI (t % pF f)) (nI (t + 1)) (qH A S1) else some (.inl (some (.int (nI t))), qH A S1)) = o → fX4_powersOf_65 (fun p0 p1 p2 p3 p4 h => fX4_powersOf_45 K p0 p1 p2 p3 p4 h) FU 113 r 116 (nI ((t - 1) % pF f)) (nI t) 0 0 (qH A S) = o := by
      intro o ho
      have ll : ∀ i, i ≤ qF f → fsF f (fun x => pw f (R x) t) i < qF f := fun i hi => fs_lt hf i (fun x hx => pw_lt hf (hr x (by omega)).2 _)
      have h := loopF0 (fun j i (s : Nat × SS) => fX4_powersOf_65 (fun p0 p1 p2 p3 p4 h => fX4_powersOf_45 K p0 p1 p2 p3 p4 h) j 113 r 116 (nI ((t - 1) % pF f)) (nI t) (nI s.1) (nI i) (qH A s.2)) (qF f) (fun i => (fsF f (fun x => pw f (R x) t) i, uA S 116 (fa_fill (fun j => nI (pw f (R j) t)) (S.2.1 116) i))) o (by omega) ?_ ?_
      · rw [fa_fill_0, uA_self] at h
        exact h
      · intro j i hlt
        have c : ¬ qF f ≤ i := by omega
        obtain ⟨g1, g2⟩ := hr i hlt
        obtain ⟨w1, w2⟩ := hw i hlt
        have l1 := ll i (by omega)
        have hT1 : TabC f (uA S 116 (fa_fill (fun j => nI (pw f (R j) t)) (S.2.1 116) i)) := hT.uA (by decide)
        have hT2 : TabC f (uA S 116 (fa_fill (fun j => nI (pw f (R j) t)) (S.2.1 116) (i + 1))) := hT.uA (by decide)
        have e1 : (uA S 116 (fa_fill (fun j => nI (pw f (R j) t)) (S.2.1 116) i)).2.1 116 i = nI (pw f (R i) (t - 1)) := by rw [uA_at, fa_fill_out (Nat.le_refl _)]; exact w1
        have e2 : (uA S 116 (fa_fill (fun j => nI (pw f (R j) t)) (S.2.1 116) i)).2.1 r i = nI (R i) := by rw [uA_ne hn]; exact g1
        have e3 : mu f (pw f (R i) (t - 1)) (R i) = pw f (R i) t := by
          have : pw f (R i) t = pw f (R i) ((t - 1) + 1) := by rw [← et]
          rw [this]; rfl
        have e4 : (uA S 116 (fa_fill (fun j => nI (pw f (R j) t)) (S.2.1 116) (i + 1))).2.1 116 i = nI (pw f (R i) t) := by rw [uA_at, fa_fill_in (by omega)]
        show fX4_powersOf_65 _ (j + 1) 113 r 116 _ (nI t) (nI _) (nI i) (qH A _) = _
        rw [fX4_powersOf_65]
        simp (disch := omega) only [gr_113_2, q_bs, gi_1_2, uA_s, hz, nI_leI, c, ↓reduceIte]
        rw [q_ai ql_116 (by omega), q_bs, e1, q_ai lr (by omega), q_bs, e2, ob_1, q_cv, tc_mul hf hT1 w2 g2, q_cal, q_vi, q_si ql_116 (by omega), q_bs, uaA, e3, fa_fill_succ (fun j => nI (pw f (R j) t)), gr_113_2, q_bs, q_ai ql_116 (by omega), q_bs, e4, ob_1, q_cv, tc_sum hf hT2 l1 (pw_lt hf g2 _), q_cal, q_vi, nI_1]
        rfl
      · intro j
        have l1 := ll (qF f) (Nat.le_refl _)
        have m2 := Nat.mod_lt t (show 0 < pF f by omega)
        show fX4_powersOf_65 _ (j + 1) 113 r 116 _ (nI t) (nI _) (nI (qF f)) (qH A _) = _
        rw [fX4_powersOf_65]
        have last : ∀ w, w = t % pF f → fX4_powersOf_137 (fun p0 p1 p2 p3 p4 h => fX4_powersOf_45 K p0 p1 p2 p3 p4 h) 113 r 116 (nI t) (nI (fsF f (fun x => pw f (R x) t) (qF f))) (nI w) (qH A S1) = o := by
          intro w hw
          subst hw
          unfold fX4_powersOf_137
          rw [← ho]
          by_cases c1 : fsF f (fun x => pw f (R x) t) (qF f) = 0
          · rw [if_pos (by rw [c1]; rfl), if_pos (Or.inl c1), nI_1]
          · rw [if_neg (by rw [qlit, nI_eq (by omega) (by decide)]; exact c1)]
            by_cases c2 : t % pF f = 0
            · rw [if_pos (by rw [c2]; rfl), if_pos (Or.inr c2), nI_1]
            · rw [if_neg (by rw [qlit, nI_eq (by omega) (by decide)]; exact c2), if_neg (by omega)]
        have em : t % pF f = if pF f ≤ (t - 1) % pF f + 1 then 0 else (t - 1) % pF f + 1 := by
          have : t % pF f = ((t - 1) % pF f + 1) % pF f := by rw [Nat.mod_add_mod, ← et]
          rw [this]
          split
          · have : (t - 1) % pF f + 1 = pF f := by omega
            rw [this, Nat.mod_self]
          · exact Nat.mod_eq_of_lt (by omega)
        simp (disch := omega) only [gr_113_2, q_bs, gi_1_2, gi_1_0, uA_s, hz, hp, nI_1, nI_leI, Nat.le_refl, ↓reduceIte]
        by_cases c3 : pF f ≤ (t - 1) % pF f + 1
        · rw [if_pos c3]
          rw [if_pos c3] at em
          exact last 0 em.symm
        · rw [if_neg c3]
          rw [if_neg c3] at em
          exact last _ em.symm
    rw [fX4_powersOf_45]
    by_cases cc : fsF f (fun x => pw f (R x) t) (qF f) = 0 ∨ t % pF f = 0
    · obtain ⟨S', a1, a2⟩ := ih (t + 1) K S1 (by omega) (by omega) (by omega) (hT.uA (by decide)) (hr.ne hn) (by rw [Nat.add_sub_cancel]; exact rowR.fill (fun x hx => pw_lt hf (hr x hx).2 _))
      rw [Nat.add_sub_cancel] at a1
      refine ⟨S', ?_, (eqo.uA (X := fun x => x = 116) rfl).tr a2⟩
      simp (disch := omega) only [gr_113_2, q_bs, gi_1_2, hz, qlit, pk_sub, nI_ltI, c, ↓reduceIte]
      rw [show nI 0 = 0 from rfl, inner _ (if_pos cc), a1, pwsF, if_pos cc]
    · refine ⟨S1, ?_, eqo.uA rfl⟩
      simp (disch := omega) only [gr_113_2, q_bs, gi_1_2, hz, qlit, pk_sub, nI_ltI, c, ↓reduceIte]
      rw [show nI 0 = 0 from rfl, inner _ (if_neg cc), pwsF, if_neg cc]
theorem st_powers (hf : f < nF) (hT : TabC f S) {r : Nat} {R : Nat → Nat} (lr : qL A r 64) (hr : rowR f S r R) (hn : r ≠ 116) :
    ∃ S', fX4_powersOf 113 r (qH A S) = some (.inl (some (.int (if cnV (qF f) R 0 = 1 then pwsF f R (qF f - 2) 1 else 0))), qH A S') ∧ eqo (fun x => x = 116) S S' := by
  have hq := qz hf
  have hz : S.1 1 2 = nI (qF f) := hT.2.2.2.2.2.2.1
  have hc : cnV (qF f) R 0 ≤ qF f := fb_ct_le _ _
  have h0 := st_count (A := A) (v := 0) hf hz lr hr (by decide)
  unfold fX4_powersOf
  rw [show (fX4_countOf 113 r 0 (qH A S)) = _ from h0, ob_113, q_cv, q_cal, q_vi]
  by_cases c1 : cnV (qF f) R 0 = 1
  · obtain ⟨S', a1, a2⟩ := st_pow45 (A := A) hf lr hn (qF f - 2) 1 FU (uA S 116 (fa_fill (fun j => nI (pw f (R j) 0)) (S.2.1 116) (qF f))) (by omega) (by decide) (by unfold FU; omega) (hT.uA (by decide)) (hr.ne hn) (rowR.fill (fun x hx => pw_lt hf (hr x hx).2 _))
    refine ⟨S', ?_, (eqo.uA (X := fun x => x = 116) rfl).tr a2⟩
    rw [if_pos (by rw [c1]; rfl), if_pos c1, gr_113_4, q_bs]
    have h := loopF0 (fun j i s => fX4_powersOf_19 j 113 r 116 (nI i) (qH A s)) (qF f) (fun i => uA S 116 (fa_fill (fun j => nI (pw f (R j) 0)) (S.2.1 116) i)) (some (.inl (some (.int (pwsF f R (qF f - 2) 1))), qH A S')) (by omega) ?_ ?_
    · rw [fa_fill_0, uA_self] at h
      exact h
    · intro j i hlt
      have c : ¬ qF f ≤ i := by omega
      show fX4_powersOf_19 (j + 1) 113 r 116 (nI i) (qH A _) = _
      rw [fX4_powersOf_19]
      simp (disch := omega) only [gr_113_2, q_bs, gi_1_2, uA_s, hz, nI_leI, c, ↓reduceIte]
      rw [q_si ql_116 (by omega), q_bs, uaA, show (1 : Int32) = nI (pw f (R i) 0) from rfl, fa_fill_succ (fun j => nI (pw f (R j) 0)), show nI (pw f (R i) 0) = 1 from rfl, nI_1]
    · intro j
      show fX4_powersOf_19 (j + 1) 113 r 116 (nI (qF f)) (qH A _) = _
      rw [fX4_powersOf_19]
      simp (disch := omega) only [gr_113_2, q_bs, gi_1_2, uA_s, hz, nI_leI, Nat.le_refl, ↓reduceIte]
      rw [show (1 - 1) % pF f = 0 from Nat.zero_mod _, show nI 0 = 0 from rfl, show nI 1 = 1 from rfl] at a1
      exact a1
  · refine ⟨S, ?_, eqo.rf⟩
    rw [if_neg (by rw [qlit, nI_eq (by omega) (by decide)]; exact c1), if_neg c1]
/-- the last place of a value -/
def liF (R : Nat → Nat) : Nat → Nat → Nat
  | 0, _ => 0
  | n + 1, y => if R n = y then n else liF R n y
theorem st_invert (hf : f < nF) (hz : S.1 1 2 = nI (qF f)) {r rm : Nat} {R : Nat → Nat} (lr : qL A r 64) (lm : qL A rm 64) (hr : rowR f S r R) (hne : r ≠ rm) :
    ∃ S', fX4_invert 113 r rm (qH A S) = some (.inl none, qH A S') ∧ (∀ y, y < qF f → (∃ x, x < qF f ∧ R x = y) → S'.2.1 rm y = nI (liF R (qF f) y)) ∧ eqo (fun x => x = rm) S S' := by
  have hq := qz hf
  let G : Nat → Nat → Int32 := fun i => Nat.rec (S.2.1 rm) (fun n g => upd g (R n) (nI n)) i
  have hG : ∀ i y, (∃ x, x < i ∧ R x = y) → G i y = nI (liF R i y) := by
    intro i
    induction i with
    | zero => rintro y ⟨x, h, -⟩; omega
    | succ i ih =>
      rintro y ⟨x, h1, h2⟩
      show upd (G i) (R i) (nI i) y = _
      unfold liF
      by_cases e : R i = y
      · rw [if_pos e, e, pk_us]
      · rw [if_neg e, pk_un (Ne.symm e)]
        refine ih y ⟨x, ?_, h2⟩
        by_cases e2 : x = i
        · subst e2; exact absurd h2 e
        · omega
  refine ⟨uA S rm (G (qF f)), ?_, fun y hy hx => by rw [uA_at]; exact hG _ y hx, eqo.uA rfl⟩
  unfold fX4_invert
  have h := loopF0 (fun j i s => fX4_invert_2 j 113 r rm (nI i) (qH A s)) (qF f) (fun i => uA S rm (G i)) (some (.inl none, qH A (uA S rm (G (qF f))))) (by omega) ?_ ?_
  · rw [show G 0 = S.2.1 rm from rfl, uA_self] at h
    exact h
  · intro j i hlt
    have c : ¬ qF f ≤ i := by omega
    obtain ⟨g1, g2⟩ := hr i hlt
    show fX4_invert_2 (j + 1) 113 r rm (nI i) (qH A _) = _
    rw [fX4_invert_2]
    simp (disch := omega) only [gr_113_2, q_bs, gi_1_2, uA_s, hz, nI_leI, c, ↓reduceIte]
    rw [q_ai lr (by omega), q_bs, uA_ne hne, g1, q_si lm (by omega), q_bs, uaA, nI_1]
  · intro j
    show fX4_invert_2 (j + 1) 113 r rm (nI (qF f)) (qH A _) = _
    rw [fX4_invert_2]
    simp (disch := omega) only [gr_113_2, q_bs, gi_1_2, uA_s, hz, nI_leI, Nat.le_refl, ↓reduceIte]
end QK
