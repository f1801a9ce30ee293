/-! the reference's field, laid -/
def anyN (P : Nat → Bool) : Nat → Nat → Bool
  | _, 0 => false
  | o, d + 1 => P o || anyN P (o + 1) d
theorem anyN_last (P : Nat → Bool) : ∀ d o, anyN P o (d + 1) = (anyN P o d || P (o + d))
  | 0, o => by simp [anyN]
  | d + 1, o => by
    rw [anyN, anyN_last P d (o + 1), anyN, Bool.or_assoc, show o + 1 + d = o + (d + 1) by omega]
def fiN (p num : Nat) : Nat → Nat
  | 0 => 0
  | i + 1 => up (fiN p num i) i (num / p ^ i % p)
def trN (p m num deg o : Nat) : Nat := rsO p o deg (m + 1 - deg) (up (fiN p num m) m 1)
def leftB (p m num deg o : Nat) : Bool := anyN (fun i => dg (trN p m num deg o) i != 0) 0 deg
def prB (p m num : Nat) : Bool := anyN (fun deg => anyN (fun o => !leftB p m num deg o) 0 (rsM p deg)) 1 (m / 2)
theorem w_up1 {S : SS} {i N v : Nat} (h : rowW S i N) (hv : v < 64) : rowW (ua S 265 i (nI v)) (i + 1) (up N i v) := by
  intro j hj
  rw [ua_at, dg_up hv]
  by_cases e : j = i
  · rw [if_pos e, if_pos e]
  · rw [if_neg e, if_neg e]; exact h j (by omega)
theorem z_br0 {h : AH} : zbr 0 h = some (.inl (some (.int 0)), h) := if_pos (Or.inl rfl)
theorem z_br1 {h : AH} : zbr 1 h = some (.inl (some (.int 1)), h) := if_pos (Or.inr rfl)
section QMN
variable {A : AS} {S : SS} {p m num : Nat}
theorem m_left {deg N : Nat} (hdeg : deg ≤ 6) (hN : rowW S deg N) (K2 : Nat → Int32 → Int32 → AH → RR) (K14 : Nat → Int32 → Int32 → Int32 → AH → RR) (o : Nat) : fX7_isProduct_87 K2 K14 FU 119 (nI num) (nI deg) (nI o) 0 0 (qH A S) = if anyN (fun i => dg N i != 0) 0 deg = true then K14 119 (nI num) (nI deg) (nI (o + 1)) (qH A S) else some (.inl (some (.int 1)), qH A S) := by
  have h := loopF0 (fun k i (F : Int32) => fX7_isProduct_87 K2 K14 k 119 (nI num) (nI deg) (nI o) F (nI i) (qH A S)) deg (fun i => if anyN (fun i => dg N i != 0) 0 i = true then 1 else 0) (if anyN (fun i => dg N i != 0) 0 deg = true then K14 119 (nI num) (nI deg) (nI (o + 1)) (qH A S) else some (.inl (some (.int 1)), qH A S)) (by omega) ?_ ?_
  · exact h
  · intro k i hi
    have l := dg_lt N i
    show fX7_isProduct_87 K2 K14 (k + 1) 119 (nI num) (nI deg) (nI o) (if anyN (fun i => dg N i != 0) 0 i = true then 1 else 0) (nI i) (qH A S) = fX7_isProduct_87 K2 K14 k 119 (nI num) (nI deg) (nI o) (if anyN (fun i => dg N i != 0) 0 (i + 1) = true then 1 else 0) (nI (i + 1)) (qH A S)
    rw [fX7_isProduct_87, if_neg (by rw [nI_leI (by omega) (by omega)]; omega), anyN_last, Nat.zero_add, gr_119_21, q_bs, q_ai ql_265 (by omega), q_bs, hN i hi, nI_1]
    by_cases c : anyN (fun i => dg N i != 0) 0 i = true
    · rw [if_pos c, if_neg (by decide), if_pos (by rw [c]; rfl)]
    · have c' : anyN (fun i => dg N i != 0) 0 i = false := by simpa using c
      rw [if_neg c, if_pos rfl, c', Bool.false_or]
      by_cases e : dg N i = 0
      · rw [if_pos (by rw [e]; rfl), if_neg (by simp [e])]
      · rw [if_neg (by rw [qlit, nI_eq (by omega) (by decide)]; exact e), if_pos (by simp [e])]
  · intro k
    show fX7_isProduct_87 K2 K14 (k + 1) 119 (nI num) (nI deg) (nI o) (if anyN (fun i => dg N i != 0) 0 deg = true then 1 else 0) (nI deg) (qH A S) = _
    rw [fX7_isProduct_87, if_pos (by rw [nI_leI (by omega) (by omega)]; exact Nat.le_refl _), nI_1, z_br1]
    by_cases c : anyN (fun i => dg N i != 0) 0 deg = true
    · rw [if_pos c, if_neg (by decide), if_pos c]
    · rw [if_neg c, if_pos rfl, if_neg c]
theorem m_trial (hp : 2 ≤ p) (hp2 : p ≤ 61) (hm1 : 1 ≤ m) (hm : m ≤ 6) (hnum : num < 64) {deg o : Nat} (hd1 : 1 ≤ deg) (hdm : deg ≤ m) (ho : o < 64) (hP : S.1 119 13 = nI p) (hM : S.1 119 14 = nI m) (K2 : Nat → Int32 → Int32 → AH → RR) (K14 : Nat → Int32 → Int32 → Int32 → AH → RR) :
    ∃ S', fX7_isProduct_29 K2 K14 FU 119 (nI num) (nI deg) (nI o) 0 (qH A S) = (if leftB p m num deg o = true then K14 119 (nI num) (nI deg) (nI (o + 1)) (qH A S') else some (.inl (some (.int 1)), qH A S')) ∧ eqo (fun x => x = 265) S S' := by
  have key := loopP (fun k i s => fX7_isProduct_29 K2 K14 k 119 (nI num) (nI deg) (nI o) (nI i) (qH A s)) m (fun i s => rowW s i (fiN p num i) ∧ eqo (fun x => x = 265) S s) (fun r => ∃ S', r = (if leftB p m num deg o = true then K14 119 (nI num) (nI deg) (nI (o + 1)) (qH A S') else some (.inl (some (.int 1)), qH A S')) ∧ eqo (fun x => x = 265) S S') ?_ ?_ m 0 FU S (by omega) (by unfold FU; omega) ⟨fun j hj => by omega, eqo.rf⟩
  · exact key
  · rintro k i T hi ⟨g1, g2⟩
    have hP2 : T.1 119 13 = nI p := by rw [(g2.1 119 (by decide)).1]; exact hP
    have hM2 : T.1 119 14 = nI m := by rw [(g2.1 119 (by decide)).1]; exact hM
    have d1 := m_digit (A := A) (S := T) (n := num) (p := p) (i := i) (by omega) (by omega) (by omega) (by omega)
    have l1 := Nat.mod_lt (num / p ^ i) (show 0 < p by omega)
    refine ⟨ua T 265 i (nI (num / p ^ i % p)), ⟨w_up1 g1 (by omega), g2.tr (eqo.ua (X := fun x => x = 265) rfl)⟩, ?_⟩
    show fX7_isProduct_29 K2 K14 (k + 1) 119 (nI num) (nI deg) (nI o) (nI i) (qH A T) = _
    rw [fX7_isProduct_29, gi_119_14, q_bs, hM2, if_neg (by rw [nI_leI (by omega) (by omega)]; omega), gr_119_21, q_bs, gi_119_13, q_bs, hP2, d1, q_cal, q_vi, q_si ql_265 (by omega), q_bs, nI_1]
  · rintro k T ⟨g1, g2⟩
    have hP2 : T.1 119 13 = nI p := by rw [(g2.1 119 (by decide)).1]; exact hP
    have hM2 : T.1 119 14 = nI m := by rw [(g2.1 119 (by decide)).1]; exact hM
    have e0 : eqo (fun x => x = 265) T (ua T 265 m 1) := eqo.ua (X := fun x => x = 265) rfl
    obtain ⟨S1, a1, a2, a3⟩ := m_rests (A := A) (S := ua T 265 m 1) (n := m + 1) (num := o) (d := deg) (c := m + 1 - deg) (N := up (fiN p num m) m 1) hp hp2 ho hd1 (by omega) (by omega) (by omega) hP2 (w_up1 (v := 1) g1 (by decide))
    have a1' : fX7_rests 119 (nI m) (nI o) (nI deg) (qH A (ua T 265 m 1)) = some (.inl none, qH A S1) := by
      rw [show deg + (m + 1 - deg) - 1 = m by omega] at a1
      exact a1
    refine ⟨S1, ?_, (g2.tr e0).tr a3⟩
    have hM3 : (ua T 265 m 1).1 119 14 = nI m := by rw [ua_s]; exact hM2
    show fX7_isProduct_29 K2 K14 (k + 1) 119 (nI num) (nI deg) (nI o) (nI m) (qH A T) = _
    rw [fX7_isProduct_29, gi_119_14, q_bs, hM2, if_pos (by rw [nI_leI (by omega) (by omega)]; exact Nat.le_refl _), gr_119_21, q_bs, q_bs, q_si ql_265 (by omega), q_bs, gi_119_14, q_bs, hM3, ob_119, q_cv, a1', q_cal, q_vn, m_left (N := trN p m num deg o) (by omega) (fun j hj => a2 j (by omega))]
    rfl
theorem m_prod14 (hp : 2 ≤ p) (hp2 : p ≤ 61) (hm1 : 1 ≤ m) (hm : m ≤ 6) (hnum : num < 64) {deg : Nat} (hd1 : 1 ≤ deg) (hdm : deg ≤ m) (hr : rsM p deg ≤ 64) (K2 : Nat → Int32 → Int32 → AH → RR) : ∀ d o K S, o + d = rsM p deg → d < K → S.1 119 13 = nI p → S.1 119 14 = nI m →
    ∃ S', fX7_isProduct_14 K2 K 119 (nI num) (nI deg) (nI o) (qH A S) = (if anyN (fun o => !leftB p m num deg o) o d = true then some (.inl (some (.int 1)), qH A S') else K2 119 (nI num) (nI (deg + 1)) (qH A S')) ∧ eqo (fun x => x = 265) S S' := by
  intro d
  induction d with
  | zero =>
    intro o K S h1 h2 hP hM
    obtain ⟨K, rfl⟩ : ∃ k', K = k' + 1 := ⟨K - 1, by omega⟩
    refine ⟨S, ?_, eqo.rf⟩
    rw [fX7_isProduct_14, gi_119_13, q_bs, hP, m_raised (by omega) (by omega), q_cal, q_vi, if_pos (by rw [nI_leI (by omega) (by omega)]; omega), if_neg (by unfold anyN; decide), nI_1]
  | succ d ih =>
    intro o K S h1 h2 hP hM
    obtain ⟨K, rfl⟩ : ∃ k', K = k' + 1 := ⟨K - 1, by omega⟩
    obtain ⟨S1, a1, a2⟩ := m_trial (A := A) (deg := deg) (o := o) hp hp2 hm1 hm hnum hd1 hdm (by omega) hP hM K2 (fun p0 p1 p2 p3 h => fX7_isProduct_14 K2 K p0 p1 p2 p3 h)
    rw [fX7_isProduct_14, gi_119_13, q_bs, hP, m_raised (by omega) (by omega), q_cal, q_vi, if_neg (by rw [nI_leI (by omega) (by omega)]; omega), a1, anyN]
    by_cases c : leftB p m num deg o = true
    · obtain ⟨S2, b1, b2⟩ := ih (o + 1) K S1 (by omega) (by omega) (by rw [(a2.1 119 (by decide)).1]; exact hP) (by rw [(a2.1 119 (by decide)).1]; exact hM)
      refine ⟨S2, ?_, a2.tr b2⟩
      rw [if_pos c, c, Bool.not_true, Bool.false_or]
      exact b1
    · have c' : leftB p m num deg o = false := by simpa using c
      refine ⟨S1, ?_, a2⟩
      rw [if_neg c, c', Bool.not_false, Bool.true_or, if_pos rfl]
theorem m_product (hp : 2 ≤ p) (hp2 : p ≤ 61) (hm1 : 1 ≤ m) (hm : m ≤ 6) (hnum : num < 64) (hr : ∀ deg, 2 * deg ≤ m → rsM p deg ≤ 64) (hP : S.1 119 13 = nI p) (hM : S.1 119 14 = nI m) :
    ∃ S', fX7_isProduct 119 (nI num) (qH A S) = some (.inl (some (.int (if prB p m num = true then 1 else 0))), qH A S') ∧ eqo (fun x => x = 265) S S' := by
  have key : ∀ c deg K S, deg + c = m / 2 + 1 → 1 ≤ deg → c < K → S.1 119 13 = nI p → S.1 119 14 = nI m → ∃ S', fX7_isProduct_2 K 119 (nI num) (nI deg) (qH A S) = some (.inl (some (.int (if anyN (fun deg => anyN (fun o => !leftB p m num deg o) 0 (rsM p deg)) deg c = true then 1 else 0))), qH A S') ∧ eqo (fun x => x = 265) S S' := by
    intro c
    induction c with
    | zero =>
      intro deg K S h1 h2 h3 hP hM
      obtain ⟨K, rfl⟩ : ∃ k', K = k' + 1 := ⟨K - 1, by omega⟩
      refine ⟨S, ?_, eqo.rf⟩
      rw [fX7_isProduct_2, gi_119_14, q_bs, hM, show (2 : Int32) = nI 2 from rfl, pk_mul, if_pos (by rw [nI_ltI (by omega) (by omega)]; omega), z_br0]
      rfl
    | succ c ih =>
      intro deg K S h1 h2 h3 hP hM
      obtain ⟨K, rfl⟩ : ∃ k', K = k' + 1 := ⟨K - 1, by omega⟩
      have hr9 := hr deg (by omega)
      obtain ⟨S1, a1, a2⟩ := m_prod14 (A := A) (deg := deg) hp hp2 hm1 hm hnum h2 (by omega) hr9 (fun p0 p1 p2 h => fX7_isProduct_2 K p0 p1 p2 h) (rsM p deg) 0 FU S (by omega) (by unfold FU; omega) hP hM
      rw [fX7_isProduct_2, gi_119_14, q_bs, hM, show (2 : Int32) = nI 2 from rfl, pk_mul, if_neg (by rw [nI_ltI (by omega) (by omega)]; omega)]
      by_cases c9 : anyN (fun o => !leftB p m num deg o) 0 (rsM p deg) = true
      · refine ⟨S1, ?_, a2⟩
        rw [if_pos c9] at a1
        rw [anyN, c9, Bool.true_or, if_pos rfl]
        exact a1
      · have c' : anyN (fun o => !leftB p m num deg o) 0 (rsM p deg) = false := by simpa using c9
        obtain ⟨S2, b1, b2⟩ := ih (deg + 1) K S1 (by omega) (by omega) (by omega) (by rw [(a2.1 119 (by decide)).1]; exact hP) (by rw [(a2.1 119 (by decide)).1]; exact hM)
        refine ⟨S2, ?_, a2.tr b2⟩
        rw [if_neg c9] at a1
        rw [anyN, c', Bool.false_or, ← b1]
        exact a1
  unfold fX7_isProduct prB
  exact key (m / 2) 1 FU S (by omega) (by omega) (by unfold FU; omega) hP hM
end QMN
theorem kP : ∀ f, f < nF → (mF f = 1 → dF f = 0) ∧ (1 < mF f → (∀ n, n < dF f → prB (pF f) (mF f) n = true) ∧ prB (pF f) (mF f) (dF f) = false) ∧ rsM (pF f) (mF f) = qF f ∧ (∀ deg, deg < 4 → 2 * deg ≤ mF f → rsM (pF f) deg ≤ 64) := by decide +kernel
/-- the scalars of the reference but these -/
def scX (K : Nat → Prop) (S S' : SS) : Prop := ∀ k, ¬ K k → S'.1 119 k = S.1 119 k
section QMO
variable {A : AS} {S : SS} {f : Nat}
theorem m_lays55 (hf : f < nF) : ∀ r K S n, n + r = dF f → r < K → S.1 119 13 = nI (pF f) → S.1 119 14 = nI (mF f) → S.1 119 16 = nI n →
    ∃ S', fX7_lays_55 K 119 (qH A S) = fX7_lays_87 119 (qH A S') ∧ S'.1 119 16 = nI (dF f) ∧ eqo (fun x => x = 119 ∨ x = 265) S S' ∧ scX (fun k => k = 16) S S' := by
  obtain ⟨⟨f1, f2, f3, f4, f5, f6⟩, f7, f8, -⟩ := fF f hf
  obtain ⟨k1, k2, k3, k4⟩ := kP f hf
  have hr : ∀ deg, 2 * deg ≤ mF f → rsM (pF f) deg ≤ 64 := fun deg h => k4 deg (by omega) h
  intro r
  induction r with
  | zero =>
    intro K S n h1 h2 hP hM hD
    obtain ⟨K, rfl⟩ : ∃ k', K = k' + 1 := ⟨K - 1, by omega⟩
    obtain rfl : n = dF f := by omega
    by_cases c : mF f = 1
    · refine ⟨S, ?_, hD, eqo.rf, fun _ _ => rfl⟩
      rw [fX7_lays_55, gi_119_14, q_bs, hM, if_pos (by rw [qlit, nI_leI (by omega) (by decide)]; omega)]
    · obtain ⟨S1, a1, a2⟩ := m_product (A := A) (num := dF f) f1 f2 f3 f4 (by omega) hr hP hM
      refine ⟨S1, ?_, by rw [(a2.1 119 (by decide)).1]; exact hD, a2.mo (fun b hb => Or.inr hb), fun k _ => by rw [(a2.1 119 (by decide)).1]⟩
      rw [fX7_lays_55, gi_119_14, q_bs, hM, if_neg (by rw [qlit, nI_leI (by omega) (by decide)]; omega), gi_119_16, q_bs, hD, ob_119, q_cv, a1, (k2 (by omega)).2, q_cal, q_vi, if_pos (by decide)]
  | succ r ih =>
    intro K S n h1 h2 hP hM hD
    obtain ⟨K, rfl⟩ : ∃ k', K = k' + 1 := ⟨K - 1, by omega⟩
    have c : 1 < mF f := by
      by_cases c : mF f = 1
      · have := k1 c; omega
      · omega
    obtain ⟨S1, a1, a2⟩ := m_product (A := A) (num := n) f1 f2 f3 f4 (by omega) hr hP hM
    have e1 : S1.1 119 = S.1 119 := (a2.1 119 (by decide)).1
    have e2 : eqo (fun x => x = 119 ∨ x = 265) S (us S1 119 16 (nI (n + 1))) := (a2.mo (fun b hb => Or.inr hb)).tr (eqo.us (Or.inl rfl))
    have sc1 : scX (fun k => k = 16) S (us S1 119 16 (nI (n + 1))) := fun k hk => by rw [us_at, if_neg hk, e1]
    obtain ⟨S2, b1, b2, b3, b4⟩ := ih K (us S1 119 16 (nI (n + 1))) (n + 1) (by omega) (by omega) (by rw [sc1 13 (by decide)]; exact hP) (by rw [sc1 14 (by decide)]; exact hM) (by rw [us_at, if_pos rfl])
    refine ⟨S2, ?_, b2, e2.tr b3, fun k hk => by rw [b4 k hk, sc1 k hk]⟩
    rw [fX7_lays_55, gi_119_14, q_bs, hM, if_neg (by rw [qlit, nI_leI (by omega) (by decide)]; omega), gi_119_16, q_bs, hD, ob_119, q_cv, a1, (k2 c).1 n (by omega), q_cal, q_vi, if_neg (by decide), gi_119_16, q_bs, e1, hD, pi_119_16, q_bs, nI_1]
    exact b1
theorem ua_g {S : SS} {r i : Nat} {v : Int32} (r' j : Nat) : (ua S r i v).2.1 r' j = if r' = r ∧ j = i then v else S.2.1 r' j := by
  by_cases e : r' = r
  · subst e
    rw [ua_at]
    by_cases e2 : j = i
    · rw [if_pos e2, if_pos ⟨rfl, e2⟩]
    · rw [if_neg e2, if_neg (fun h => e2 h.2)]
  · rw [ua_ne e, if_neg (fun h => e h.1)]
def uaC (c : Prop) [Decidable c] (S : SS) (r i : Nat) (v : Int32) : SS := if c then ua S r i v else S
theorem uaC_g {c : Prop} [Decidable c] {S : SS} {r i : Nat} {v : Int32} (r' j : Nat) : (uaC c S r i v).2.1 r' j = if c ∧ r' = r ∧ j = i then v else S.2.1 r' j := by
  unfold uaC
  by_cases e : c
  · rw [if_pos e, ua_g]
    by_cases e2 : r' = r ∧ j = i
    · rw [if_pos e2, if_pos ⟨e, e2⟩]
    · rw [if_neg e2, if_neg (fun h => e2 h.2)]
  · rw [if_neg e, if_neg (fun h => e h.1)]
theorem uaC_s {c : Prop} [Decidable c] {S : SS} {r i : Nat} {v : Int32} : (uaC c S r i v).1 = S.1 := by
  unfold uaC
  by_cases e : c
  · rw [if_pos e]; rfl
  · rw [if_neg e]
theorem uaC_e {c : Prop} [Decidable c] {S : SS} {X : Nat → Prop} {r i : Nat} {v : Int32} (h : X r) : eqo X S (uaC c S r i v) := by
  unfold uaC
  by_cases e : c
  · rw [if_pos e]; exact eqo.ua h
  · rw [if_neg e]; exact eqo.rf
def LPm (f a b : Nat) (S : SS) : Prop := (∀ a' b', a' < qF f → b' < qF f → (a' < a ∨ (a' = a ∧ b' < b)) → S.2.1 (133 + 1 + a') b' = nI (ad f a' b') ∧ S.2.1 (198 + 1 + a') b' = nI (mu f a' b')) ∧ (∀ a', a' < qF f → (a' < a ∨ (a' = a ∧ ng f a' < b)) → S.2.1 263 a' = nI (ng f a')) ∧ (∀ a', a' < qF f → a' ≠ 0 → (a' < a ∨ (a' = a ∧ iv f a' < b)) → S.2.1 264 a' = nI (iv f a')) ∧ S.1 119 13 = nI (pF f) ∧ S.1 119 14 = nI (mF f) ∧ S.1 119 15 = nI (qF f) ∧ S.1 119 16 = nI (dF f)
theorem m_lays99 (hf : f < nF) {a : Nat} (ha : a < qF f) (hL : LPm f a 0 S) (K89 : Nat → Int32 → AH → RR) : ∃ S', fX7_lays_99 K89 FU 119 (nI a) 0 (qH A S) = K89 119 (nI (a + 1)) (qH A S') ∧ LPm f (a + 1) 0 S' ∧ eqo (fun x => 133 < x ∧ x < 266) S S' ∧ S'.1 119 = S.1 119 := by
  obtain ⟨⟨f1, f2, f3, f4, f5, f6⟩, f7, f8, -⟩ := fF f hf
  have key := loopP (fun k b s => fX7_lays_99 K89 k 119 (nI a) (nI b) (qH A s)) (qF f) (fun b s => LPm f a b s ∧ eqo (fun x => 133 < x ∧ x < 266) S s ∧ s.1 119 = S.1 119) (fun o => ∃ S', o = K89 119 (nI (a + 1)) (qH A S') ∧ LPm f (a + 1) 0 S' ∧ eqo (fun x => 133 < x ∧ x < 266) S S' ∧ S'.1 119 = S.1 119) ?_ ?_ (qF f) 0 FU S (by omega) (by unfold FU; omega) ⟨hL, eqo.rf, rfl⟩
  · exact key
  · rintro k b T hb ⟨⟨g1, g2, g3, g4, g5, g6, g7⟩, g8, g9⟩
    have la := ad_lt hf ha hb
    have lm := mu_lt hf ha hb
    have w1 := rw_s a (by omega)
    have hsum := m_summed (A := A) (S := T) (p := pF f) (m := mF f) (a := a) (b := b) f1 (by omega) g4 g5 f3 f4 (by omega) (by omega)
    rw [sd_ad hf ha hb] at hsum
    let T1 := uA T 265 (fa_fill (fun i => nI (sdM (pF f) a b i)) (T.2.1 265) (mF f))
    let T2 := ua T1 (133 + 1 + a) b (nI (ad f a b))
    obtain ⟨T3, a1, a2⟩ := m_multiplied (A := A) (S := T2) (p := pF f) (m := mF f) (d := dF f) (a := a) (b := b) f1 f2 f3 f4 (by omega) (by omega) (by omega) g4 g5 g7
    rw [ml_mu hf ha hb] at a1
    let T4 := ua T3 (198 + 1 + a) b (nI (mu f a b))
    let T5 := uaC (ad f a b = 0) T4 263 a (nI b)
    let T6 := uaC (mu f a b = 1) T5 264 a (nI b)
    have e12 : eqo (fun x => 133 < x ∧ x < 266) T T2 := (eqo.uA (by decide)).tr (eqo.ua (by omega))
    have e23 : eqo (fun x => 133 < x ∧ x < 266) T2 T3 := a2.mo (fun b hb => by have : b = 265 := hb; omega)
    have e36 : eqo (fun x => 133 < x ∧ x < 266) T3 T6 := ((eqo.ua (by omega)).tr (uaC_e (by decide))).tr (uaC_e (by decide))
    have s3 : T3.1 119 = T.1 119 := (a2.1 119 (by decide)).1
    have s6 : T6.1 119 = T.1 119 := by
      show (uaC _ _ _ _ _).1 119 = _
      rw [uaC_s]
      show (uaC _ _ _ _ _).1 119 = _
      rw [uaC_s]
      exact s3
    have v : ∀ r' j, r' ≠ 265 → T6.2.1 r' j = if mu f a b = 1 ∧ r' = 264 ∧ j = a then nI b else if ad f a b = 0 ∧ r' = 263 ∧ j = a then nI b else if r' = 198 + 1 + a ∧ j = b then nI (mu f a b) else if r' = 133 + 1 + a ∧ j = b then nI (ad f a b) else T.2.1 r' j := by
      intro r' j h5
      show (uaC _ _ _ _ _).2.1 r' j = _
      rw [uaC_g]
      show (if _ then _ else (uaC _ _ _ _ _).2.1 r' j) = _
      rw [uaC_g]
      show (if _ then _ else if _ then _ else (ua T3 _ _ _).2.1 r' j) = _
      rw [ua_g, (a2.1 r' h5).2]
      show (if _ then _ else if _ then _ else if _ then _ else (ua T1 _ _ _).2.1 r' j) = _
      rw [ua_g]
      show (if _ then _ else if _ then _ else if _ then _ else if _ then _ else (uA T 265 _).2.1 r' j) = _
      rw [uA_ne h5]
    have hst : T4.2.1 (133 + 1 + a) b = nI (ad f a b) := by
      show (ua T3 _ _ _).2.1 _ _ = _
      rw [ua_g, if_neg (by omega), (a2.1 (133 + 1 + a) (by omega)).2]
      show (ua T1 _ _ _).2.1 _ _ = _
      rw [ua_g, if_pos ⟨rfl, rfl⟩]
    have hpt : T5.2.1 (198 + 1 + a) b = nI (mu f a b) := by
      show (uaC _ _ _ _ _).2.1 _ _ = _
      rw [uaC_g, if_neg (by omega)]
      show (ua T3 _ _ _).2.1 _ _ = _
      rw [ua_g, if_pos ⟨rfl, rfl⟩]
    refine ⟨T6, ⟨⟨fun a' b' ha' hb' h => ?_, fun a' ha' h => ?_, fun a' ha' h0 h => ?_, by rw [s6]; exact g4, by rw [s6]; exact g5, by rw [s6]; exact g6, by rw [s6]; exact g7⟩, (g8.tr e12).tr (e23.tr e36), by rw [s6]; exact g9⟩, ?_⟩
    · have hs : T6.2.1 (133 + 1 + a') b' = if a' = a ∧ b' = b then nI (ad f a b) else T.2.1 (133 + 1 + a') b' := by
        rw [v _ _ (by omega), if_neg (fun h => by have := h.2.1; omega), if_neg (fun h => by have := h.2.1; omega), if_neg (fun h => by have := h.1; omega)]
        by_cases e : a' = a ∧ b' = b
        · rw [if_pos e, if_pos ⟨by rw [e.1], e.2⟩]
        · rw [if_neg e, if_neg (fun h => e ⟨by have := h.1; omega, h.2⟩)]
      have hm : T6.2.1 (198 + 1 + a') b' = if a' = a ∧ b' = b then nI (mu f a b) else T.2.1 (198 + 1 + a') b' := by
        rw [v _ _ (by omega), if_neg (fun h => by have := h.2.1; omega), if_neg (fun h => by have := h.2.1; omega)]
        by_cases e : a' = a ∧ b' = b
        · rw [if_pos e, if_pos ⟨by rw [e.1], e.2⟩]
        · rw [if_neg e, if_neg (fun h => e ⟨by have := h.1; omega, h.2⟩), if_neg (fun h => by have := h.1; omega)]
      rw [hs, hm]
      by_cases e : a' = a ∧ b' = b
      · rw [if_pos e, if_pos e, e.1, e.2]
        exact ⟨rfl, rfl⟩
      · rw [if_neg e, if_neg e]
        refine g1 a' b' ha' hb' ?_
        rcases h with h | ⟨h, h9⟩
        · exact Or.inl h
        · exact Or.inr ⟨h, Nat.lt_of_le_of_ne (Nat.le_of_lt_succ h9) (fun e9 => e ⟨h, e9⟩)⟩
    · rw [v _ _ (by decide), if_neg (fun h => absurd h.2.1 (by decide)), if_neg (c := 263 = 198 + 1 + a ∧ a' = b) (fun h => by have := h.1; omega), if_neg (c := 263 = 133 + 1 + a ∧ a' = b) (fun h => by have := h.1; omega)]
      by_cases e : ad f a b = 0 ∧ 263 = 263 ∧ a' = a
      · rw [if_pos e, e.2.2]
        rcases ad_ng hf ha hb with h9 | h9
        · exact absurd e.1 h9
        · rw [h9]
      · rw [if_neg e]
        refine g2 a' ha' ?_
        rcases h with h | ⟨h, h9⟩
        · exact Or.inl h
        · subst h
          refine Or.inr ⟨rfl, ?_⟩
          by_cases e9 : ng f a' = b
          · exact absurd ⟨by rw [← e9]; exact (ad_0 hf ha').2, rfl, rfl⟩ e
          · exact Nat.lt_of_le_of_ne (Nat.le_of_lt_succ h9) e9
    · rw [v _ _ (by decide), if_neg (c := ad f a b = 0 ∧ 264 = 263 ∧ a' = a) (fun h => absurd h.2.1 (by decide)), if_neg (c := 264 = 198 + 1 + a ∧ a' = b) (fun h => by have := h.1; omega), if_neg (c := 264 = 133 + 1 + a ∧ a' = b) (fun h => by have := h.1; omega)]
      have hi9 := iv_lt hf ha'
      by_cases e : mu f a b = 1 ∧ 264 = 264 ∧ a' = a
      · rw [if_pos e]
        obtain ⟨e1, -, rfl⟩ := e
        rcases iv_last hf ha hb with (h9 | h9) | h9
        · have hup : iv f a' ≤ b := by
            rcases h with h | ⟨-, h⟩
            · exact absurd h (Nat.lt_irrefl _)
            · exact Nat.le_of_lt_succ h
          rw [Nat.le_antisymm hup h9]
        · exact absurd h9 h0
        · exact absurd e1 h9
      · rw [if_neg e]
        refine g3 a' ha' h0 ?_
        rcases h with h | ⟨h, h9⟩
        · exact Or.inl h
        · subst h
          refine Or.inr ⟨rfl, ?_⟩
          by_cases e9 : iv f a' = b
          · rcases mu_iv hf ha' with h8 | h8
            · exact absurd h8 h0
            · exact absurd ⟨by rw [← e9]; exact h8, rfl, rfl⟩ e
          · exact Nat.lt_of_le_of_ne (Nat.le_of_lt_succ h9) e9
    · have last : fX7_lays_153 K89 (fun p0 p2 p3 h => fX7_lays_99 K89 k p0 p2 p3 h) 119 (nI a) (nI b) (qH A T5) = fX7_lays_99 K89 k 119 (nI a) (nI (b + 1)) (qH A T6) := by
        unfold fX7_lays_153
        rw [gr_119_18, q_bs, ar_198 (by omega), q_bs, q_ai (ql_row (by omega) w1.2) (by omega), q_bs, hpt, gr_119_20, q_bs, q_si ql_264 (by omega), q_bs, nI_1]
        show _ = fX7_lays_99 K89 k 119 (nI a) (nI (b + 1)) (qH A (if mu f a b = 1 then _ else _))
        by_cases e : mu f a b = 1
        · rw [if_pos (by rw [e]; rfl), if_pos e]
        · rw [if_neg (by rw [qlit, nI_eq (by omega) (by decide)]; exact e), if_neg e]
      show fX7_lays_99 K89 (k + 1) 119 (nI a) (nI b) (qH A T) = _
      rw [fX7_lays_99, gi_119_15, q_bs, g6, if_neg (by rw [nI_leI (by omega) (by omega)]; omega), gr_119_17, q_bs, ar_133 (by omega), q_bs, ob_119, q_cv, hsum, q_cal, q_vi, q_si (ql_row (by omega) w1.1) (by omega), q_bs, gr_119_18, q_bs, ar_198 (by omega), q_bs, ob_119, q_cv, a1, q_cal, q_vi, q_si (ql_row (by omega) w1.2) (by omega), q_bs, gr_119_17, q_bs, ar_133 (by omega), q_bs, q_ai (ql_row (by omega) w1.1) (by omega), q_bs, hst, gr_119_19, q_bs, q_si ql_263 (by omega), q_bs, ← last]
      show _ = fX7_lays_153 K89 _ 119 (nI a) (nI b) (qH A (if ad f a b = 0 then _ else _))
      by_cases e : ad f a b = 0
      · rw [if_pos (by rw [e]; rfl), if_pos e]
      · rw [if_neg (by rw [qlit, nI_eq (by omega) (by decide)]; exact e), if_neg e]
  · rintro k T ⟨⟨g1, g2, g3, g4, g5, g6, g7⟩, g8, g9⟩
    refine ⟨T, ?_, ⟨fun a' b' ha' hb' h => g1 a' b' ha' hb' (by omega), fun a' ha' h => g2 a' ha' ?_, fun a' ha' h0 h => g3 a' ha' h0 ?_, g4, g5, g6, g7⟩, g8, g9⟩
    · show fX7_lays_99 K89 (k + 1) 119 (nI a) (nI (qF f)) (qH A T) = _
      rw [fX7_lays_99, gi_119_15, q_bs, g6, if_pos (by rw [nI_leI (by omega) (by omega)]; exact Nat.le_refl _), nI_1]
    · have := ng_lt hf ha'; omega
    · have := iv_lt hf ha'; omega
theorem m_lays87 (hf : f < nF) (hL : LPm f 0 0 S) : ∃ S', fX7_lays_87 119 (qH A S) = some (.inl none, qH A S') ∧ TabM f S' ∧ eqo (fun x => 133 < x ∧ x < 266) S S' ∧ S'.1 119 = S.1 119 := by
  have hq := qz hf
  unfold fX7_lays_87
  have key := loopP (fun k a s => fX7_lays_89 k 119 (nI a) (qH A s)) (qF f) (fun a s => LPm f a 0 s ∧ eqo (fun x => 133 < x ∧ x < 266) S s ∧ s.1 119 = S.1 119) (fun o => ∃ S', o = some (.inl none, qH A S') ∧ TabM f S' ∧ eqo (fun x => 133 < x ∧ x < 266) S S' ∧ S'.1 119 = S.1 119) ?_ ?_ (qF f) 0 FU S (by omega) (by unfold FU; omega) ⟨hL, eqo.rf, rfl⟩
  · exact key
  · rintro k a T ha ⟨g1, g2, g3⟩
    obtain ⟨T', a1, a2, a3, a4⟩ := m_lays99 (A := A) hf ha g1 (fun p0 p2 h => fX7_lays_89 k p0 p2 h)
    refine ⟨T', ⟨a2, g2.tr a3, a4.trans g3⟩, ?_⟩
    show fX7_lays_89 (k + 1) 119 (nI a) (qH A T) = _
    rw [fX7_lays_89, gi_119_15, q_bs, g1.2.2.2.2.2.1, if_neg (by rw [nI_leI (by omega) (by omega)]; omega), a1]
  · rintro k T ⟨⟨g1, g2, g3, g4, g5, g6, g7⟩, g8, g9⟩
    refine ⟨T, ?_, ⟨fun a b ha hb => (g1 a b ha hb (Or.inl ha)).1, fun a b ha hb => (g1 a b ha hb (Or.inl ha)).2, fun a ha => g2 a ha (Or.inl ha), fun a ha h0 => g3 a ha h0 (Or.inl ha), g4, g5, g6, g7⟩, g8, g9⟩
    show fX7_lays_89 (k + 1) 119 (nI (qF f)) (qH A T) = _
    rw [fX7_lays_89, gi_119_15, q_bs, g6, if_pos (by rw [nI_leI (by omega) (by omega)]; exact Nat.le_refl _)]
/-- a field is laid, or none yet -/
def laidM (S : SS) : Prop := (∃ g, g < nF ∧ TabM g S) ∨ (S.1 119 13 = 0 ∧ S.1 119 14 = 0)
theorem m_lays (hf : f < nF) {r : Nat} (lr : qL A r 387) (hr : r < 133) (h0 : S.2.1 r 0 = nI (pF f)) (h1 : S.2.1 r 1 = nI (mF f)) (hl : laidM S) : ∃ S', fX7_lays 119 r (qH A S) = some (.inl none, qH A S') ∧ TabM f S' ∧ eqo (fun x => x = 119 ∨ (133 < x ∧ x < 266)) S S' ∧ scX (fun k => 13 ≤ k ∧ k ≤ 16) S S' := by
  obtain ⟨⟨f1, f2, f3, f4, f5, f6⟩, f7, f8, -⟩ := fF f hf
  have new : ∃ S', fX7_lays_21 119 r (qH A S) = some (.inl none, qH A S') ∧ TabM f S' ∧ eqo (fun x => x = 119 ∨ (133 < x ∧ x < 266)) S S' ∧ scX (fun k => 13 ≤ k ∧ k ≤ 16) S S' := by
    let S1 := us S 119 13 (nI (pF f))
    let S2 := us S1 119 14 (nI (mF f))
    let S3 := us S2 119 15 (nI (qF f))
    let S4 := us S3 119 16 0
    have e4 : eqo (fun x => x = 119 ∨ x = 265) S S4 := (((eqo.us (Or.inl rfl)).tr (eqo.us (Or.inl rfl))).tr (eqo.us (Or.inl rfl))).tr (eqo.us (Or.inl rfl))
    have v13 : S4.1 119 13 = nI (pF f) := by simp [S4, S3, S2, S1, us_at]
    have v14 : S4.1 119 14 = nI (mF f) := by simp [S4, S3, S2, S1, us_at]
    have v15 : S4.1 119 15 = nI (qF f) := by simp [S4, S3, S2, S1, us_at]
    have v16 : S4.1 119 16 = nI 0 := by simp [S4, us_at]; rfl
    have vo : ∀ k, ¬ (13 ≤ k ∧ k ≤ 16) → S4.1 119 k = S.1 119 k := by
      intro k hk
      show (us (us (us (us S 119 13 _) 119 14 _) 119 15 _) 119 16 _).1 119 k = _
      rw [us_at, us_at, us_at, us_at, if_neg (by omega), if_neg (by omega), if_neg (by omega), if_neg (by omega)]
    obtain ⟨S5, a1, a2, a3, a4⟩ := m_lays55 (A := A) hf (dF f) FU S4 0 (by omega) (by unfold FU; omega) v13 v14 v16
    have hLP : LPm f 0 0 S5 := ⟨fun a' b' _ _ h => by omega, fun a' _ h => by omega, fun a' _ _ h => by omega, by rw [a4 13 (by decide)]; exact v13, by rw [a4 14 (by decide)]; exact v14, by rw [a4 15 (by decide)]; exact v15, a2⟩
    obtain ⟨S6, b1, b2, b3, b4⟩ := m_lays87 (A := A) hf hLP
    have mo : ∀ b, b = 119 ∨ b = 265 → b = 119 ∨ (133 < b ∧ b < 266) := fun b hb => by omega
    refine ⟨S6, ?_, b2, ((e4.tr a3).mo mo).tr (b3.mo (fun b hb => Or.inr hb)), fun k hk => ?_⟩
    · unfold fX7_lays_21
      have x1 : S1.2.1 r 1 = nI (mF f) := h1
      have y13 : S2.1 119 13 = nI (pF f) := by simp [S2, S1, us_at]
      have y14 : S2.1 119 14 = nI (mF f) := by simp [S2, S1, us_at]
      rw [show (0 : Int32) = nI 0 from rfl, q_ai lr (by decide), q_bs, h0, pi_119_13, q_bs, show (1 : Int32) = nI 1 from rfl, q_ai lr (by decide), q_bs]
      rw [show (us S 119 13 (nI (pF f))).2.1 r 1 = nI (mF f) from h1, pi_119_14, q_bs, gi_119_13, q_bs, gi_119_14, q_bs]
      rw [show (us (us S 119 13 (nI (pF f))) 119 14 (nI (mF f))).1 119 13 = nI (pF f) from y13, show (us (us S 119 13 (nI (pF f))) 119 14 (nI (mF f))).1 119 14 = nI (mF f) from y14, m_raised (by omega) (by omega), q_cal, q_vi, (kP f hf).2.2.1, pi_119_15, q_bs, pi_119_16, q_bs]
      exact a1.trans b1
    · rw [b4, a4 k (fun e => hk (by rw [e]; decide)), vo k hk]
  unfold fX7_lays
  rw [gi_119_13, q_bs, show (0 : Int32) = nI 0 from rfl, q_ai lr (by decide), q_bs, h0, gi_119_14, q_bs, show (1 : Int32) = nI 1 from rfl, q_ai lr (by decide), q_bs, h1]
  rcases hl with ⟨g, hg, hT⟩ | ⟨u1, u2⟩
  · obtain ⟨⟨g1, g2, g3, g4, g5, g6⟩, -⟩ := fF g hg
    rw [hT.2.2.2.2.1, hT.2.2.2.2.2.1]
    by_cases c1 : pF g = pF f
    · by_cases c2 : mF g = mF f
      · have := fInj g hg f hf c1 c2
        subst this
        rw [if_pos rfl, if_pos rfl]
        exact ⟨S, rfl, hT, eqo.rf, fun _ _ => rfl⟩
      · rw [if_pos (by rw [c1]), if_neg (by rw [nI_eq (by omega) (by omega)]; exact c2)]
        exact new
    · rw [if_neg (by rw [nI_eq (by omega) (by omega)]; exact c1)]
      exact new
  · rw [u1, if_neg (by intro h; exact nI_ne0 (show 0 < pF f by omega) (by omega) h.symm)]
    exact new
end QMO
