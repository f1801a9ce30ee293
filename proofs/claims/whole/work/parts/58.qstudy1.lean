/-! loops whose states are known; rows; the component's questions, part 1 -/
theorem loopF {R σ : Type} (f : Nat → Nat → σ → R) (q : Nat) (F : Nat → σ) (r : R) (hs : ∀ k i, i < q → f (k + 1) i (F i) = f k (i + 1) (F (i + 1))) (he : ∀ k, f (k + 1) q (F q) = r) :
    ∀ d i k, i + d = q → d < k → f k i (F i) = r := by
  intro d
  induction d with
  | zero =>
    intro i k h1 h2
    obtain ⟨k, rfl⟩ : ∃ k', k = k' + 1 := ⟨k - 1, by omega⟩
    have : i = q := by omega
    subst this
    exact he k
  | succ d ih =>
    intro i k h1 h2
    obtain ⟨k, rfl⟩ : ∃ k', k = k' + 1 := ⟨k - 1, by omega⟩
    rw [hs k i (by omega)]
    exact ih (i + 1) k (by omega) (by omega)
theorem loopF0 {R σ : Type} (f : Nat → Nat → σ → R) (q : Nat) (F : Nat → σ) (r : R) (hq : q < 20000) (hs : ∀ k i, i < q → f (k + 1) i (F i) = f k (i + 1) (F (i + 1))) (he : ∀ k, f (k + 1) q (F q) = r) : f FU 0 (F 0) = r :=
  loopF f q F r hs he q 0 FU (Nat.zero_add q) hq
theorem uA_self {S : SS} {a : Nat} : uA S a (S.2.1 a) = S := by
  unfold uA
  obtain ⟨s1, s2, s3⟩ := S
  show (s1, _, s3) = (s1, s2, s3)
  congr 2
  funext b
  by_cases h : b = a
  · rw [if_pos h, h]
  · rw [if_neg h]
theorem uaA {S : SS} {a i : Nat} {g : Nat → Int32} {v : Int32} : ua (uA S a g) a i v = uA S a (upd g i v) := by
  unfold ua
  rw [uA_at]
  unfold uA
  show (S.1, _, S.2.2) = (S.1, _, S.2.2)
  congr 2
  funext b
  by_cases h : b = a
  · rw [if_pos h, if_pos h]
  · rw [if_neg h, if_neg h]; exact if_neg h
theorem uAA {S : SS} {a : Nat} {g g' : Nat → Int32} : uA (uA S a g) a g' = uA S a g' := by
  unfold uA
  show (S.1, _, S.2.2) = (S.1, _, S.2.2)
  congr 2
  funext b
  by_cases h : b = a
  · rw [if_pos h, if_pos h]
  · rw [if_neg h, if_neg h]; exact if_neg h
theorem uA_swap {S : SS} {a b : Nat} {g g' : Nat → Int32} (h : a ≠ b) : uA (uA S a g) b g' = uA (uA S b g') a g := by
  have : ∀ c, (if c = b then g' else if c = a then g else S.2.1 c) = (if c = a then g else if c = b then g' else S.2.1 c) := by
    intro c
    by_cases h1 : c = a
    · rw [if_pos h1, if_pos h1, if_neg (by omega)]
    · rw [if_neg h1, if_neg h1]
  show (S.1, (fun c => if c = b then g' else if c = a then g else S.2.1 c), S.2.2) = (S.1, (fun c => if c = a then g else if c = b then g' else S.2.1 c), S.2.2)
  rw [funext this]
theorem ua_uA {S : SS} {a b i : Nat} {g : Nat → Int32} {v : Int32} (h : a ≠ b) : ua (uA S b g) a i v = uA (ua S a i v) b g := by
  unfold ua
  rw [uA_ne h, uA_swap (Ne.symm h)]
theorem TabC.uA {f : Nat} {S : SS} {a : Nat} {g : Nat → Int32} (h : TabC f S) (ha : 5 < a) : TabC f (uA S a g) := h.kept rfl (uA_ne (by omega)) (uA_ne (by omega)) (uA_ne (by omega)) (uA_ne (by omega))
/-- a row of points -/
def rowR (f : Nat) (S : SS) (r : Nat) (R : Nat → Nat) : Prop := ∀ x, x < qF f → S.2.1 r x = nI (R x) ∧ R x < qF f
theorem rowR.ne {f : Nat} {S : SS} {r a : Nat} {R : Nat → Nat} {g : Nat → Int32} (h : rowR f S r R) (ha : r ≠ a) : rowR f (uA S a g) r R := fun x hx => by rw [uA_ne ha]; exact h x hx
theorem rowR.eqo {f : Nat} {S S' : SS} {r : Nat} {R : Nat → Nat} {X : Nat → Prop} (h : rowR f S r R) (hX : eqo X S S') (hr : ¬ X r) : rowR f S' r R := fun x hx => by rw [(hX.1 r hr).2]; exact h x hx
theorem rowR.fill {f : Nat} {S : SS} {r : Nat} {R : Nat → Nat} {g : Nat → Int32} (h : ∀ x, x < qF f → R x < qF f) : rowR f (uA S r (fa_fill (fun j => nI (R j)) g (qF f))) r R := fun x hx => by rw [uA_at, fa_fill_in hx]; exact ⟨rfl, h x hx⟩
section QJ
variable {A : AS} {S : SS} {f : Nat}
theorem qz {f : Nat} (hf : f < nF) : qF f ≤ 64 ∧ 2 ≤ qF f ∧ pF f ≤ 61 ∧ 2 ≤ pF f := by have := (fF f hf).1; omega
theorem st_join (hf : f < nF) (hz : S.1 1 2 = nI (qF f)) {ro ri rm : Nat} {RO RI : Nat → Nat} (lo : qL A ro 64) (li : qL A ri 64) (lm : qL A rm 64) (ho : rowR f S ro RO) (hi : rowR f S ri RI) (hne : ro ≠ rm) :
    fX4_join 113 ro ri rm (qH A S) = some (.inl none, qH A (uA S rm (fa_fill (fun j => nI (RO (RI j))) (S.2.1 rm) (qF f)))) := by
  have hq := qz hf
  unfold fX4_join
  have h := loopF0 (fun k i s => fX4_join_3 k 113 ro ri rm (nI i) (qH A s)) (qF f) (fun i => uA S rm (fa_fill (fun j => nI (RO (RI j))) (S.2.1 rm) i)) (some (.inl none, qH A (uA S rm (fa_fill (fun j => nI (RO (RI j))) (S.2.1 rm) (qF f))))) (by omega) ?_ ?_
  · rw [fa_fill_0, uA_self] at h
    exact h
  · intro k i hlt
    have c : ¬ qF f ≤ i := by omega
    obtain ⟨i1, i2⟩ := hi i hlt
    obtain ⟨o1, o2⟩ := ho (RI i) i2
    have e1 : (uA S rm (fa_fill (fun j => nI (RO (RI j))) (S.2.1 rm) i)).2.1 ri i = nI (RI i) := by
      by_cases e : ri = rm
      · subst e; rw [uA_at, fa_fill_out (Nat.le_refl _)]; exact i1
      · rw [uA_ne e]; exact i1
    have e2 : (uA S rm (fa_fill (fun j => nI (RO (RI j))) (S.2.1 rm) i)).2.1 ro (RI i) = nI (RO (RI i)) := by rw [uA_ne hne]; exact o1
    show fX4_join_3 (k + 1) 113 ro ri rm (nI i) (qH A _) = _
    rw [fX4_join_3]
    simp (disch := omega) only [q_cal, q_car, q_cv, q_vi, q_vj, q_vr, q_vn, q_b2, q_let, q_letJ, q_bs, gr_0_0, gr_0_1, gr_0_2, gr_0_3, gr_0_4, gr_0_5, gr_0_6, gr_0_7, gi_0_8, pi_0_8, ob_0, gi_1_0, pi_1_0, gi_1_1, pi_1_1, gi_1_2, pi_1_2, gi_1_3, pi_1_3, gr_1_4, gr_1_5, gr_1_6, gr_1_7, gr_1_8, ob_1, gi_23_0, pi_23_0, gi_23_1, pi_23_1, gr_23_2, ob_23, gi_94_0, pi_94_0, gi_94_1, pi_94_1, gr_94_2, gr_94_3, gr_94_4, gr_94_5, gr_94_6, gr_94_7, ob_94, gi_113_0, pi_113_0, gr_113_1, gr_113_2, gr_113_3, gr_113_4, gr_113_5, ob_113, gi_89_0, pi_89_0, gi_89_1, pi_89_1, gi_89_2, pi_89_2, gi_89_3, pi_89_3, gr_89_4, gr_89_5, gr_89_6, gr_89_7, gi_89_8, pi_89_8, ob_89, gi_119_0, pi_119_0, gr_119_1, gi_119_2, pi_119_2, gi_119_3, pi_119_3, gi_119_4, pi_119_4, gi_119_5, pi_119_5, gi_119_6, pi_119_6, gi_119_7, pi_119_7, gr_119_8, gr_119_9, gr_119_10, gr_119_11, gi_119_12, pi_119_12, gi_119_13, pi_119_13, gi_119_14, pi_119_14, gi_119_15, pi_119_15, gi_119_16, pi_119_16, gr_119_17, gr_119_18, gr_119_19, gr_119_20, gr_119_21, gi_119_22, pi_119_22, gi_119_23, pi_119_23, gr_119_24, gr_119_25, gr_119_26, gr_119_27, ob_119, ai_2, si_2, ai_3, si_3, ai_4, si_4, ai_5, si_5, ai_6, si_6, ai_115, si_115, ai_116, si_116, ai_117, si_117, ai_263, si_263, ai_264, si_264, ai_266, si_266, ai_267, si_267, ai_268, si_268, ai_269, si_269, ai_90, si_90, ai_91, si_91, ai_92, si_92, ai_93, si_93, ai_114, si_114, ai_118, si_118, ai_120, si_120, ai_121, si_121, ai_122, si_122, ai_123, si_123, ai_265, si_265, ar_95, ar_101, ar_107, ar_133, ar_198, ar_124, ar_24, qlit, nI_add, pk_mul, pk_div, q_rem, q_modN, nI_ltI, nI_leI, nI_eq, uA_s, hz, c, ↓reduceIte]
    rw [q_ai li (by omega), q_bs, e1, q_ai lo (by omega), q_bs, e2, q_si lm (by omega), q_bs, uaA, fa_fill_succ (fun j => nI (RO (RI j)))]
  · intro k
    show fX4_join_3 (k + 1) 113 ro ri rm (nI (qF f)) (qH A _) = _
    rw [fX4_join_3]
    simp (disch := omega) only [q_cal, q_car, q_cv, q_vi, q_vj, q_vr, q_vn, q_b2, q_let, q_letJ, q_bs, gr_0_0, gr_0_1, gr_0_2, gr_0_3, gr_0_4, gr_0_5, gr_0_6, gr_0_7, gi_0_8, pi_0_8, ob_0, gi_1_0, pi_1_0, gi_1_1, pi_1_1, gi_1_2, pi_1_2, gi_1_3, pi_1_3, gr_1_4, gr_1_5, gr_1_6, gr_1_7, gr_1_8, ob_1, gi_23_0, pi_23_0, gi_23_1, pi_23_1, gr_23_2, ob_23, gi_94_0, pi_94_0, gi_94_1, pi_94_1, gr_94_2, gr_94_3, gr_94_4, gr_94_5, gr_94_6, gr_94_7, ob_94, gi_113_0, pi_113_0, gr_113_1, gr_113_2, gr_113_3, gr_113_4, gr_113_5, ob_113, gi_89_0, pi_89_0, gi_89_1, pi_89_1, gi_89_2, pi_89_2, gi_89_3, pi_89_3, gr_89_4, gr_89_5, gr_89_6, gr_89_7, gi_89_8, pi_89_8, ob_89, gi_119_0, pi_119_0, gr_119_1, gi_119_2, pi_119_2, gi_119_3, pi_119_3, gi_119_4, pi_119_4, gi_119_5, pi_119_5, gi_119_6, pi_119_6, gi_119_7, pi_119_7, gr_119_8, gr_119_9, gr_119_10, gr_119_11, gi_119_12, pi_119_12, gi_119_13, pi_119_13, gi_119_14, pi_119_14, gi_119_15, pi_119_15, gi_119_16, pi_119_16, gr_119_17, gr_119_18, gr_119_19, gr_119_20, gr_119_21, gi_119_22, pi_119_22, gi_119_23, pi_119_23, gr_119_24, gr_119_25, gr_119_26, gr_119_27, ob_119, ai_2, si_2, ai_3, si_3, ai_4, si_4, ai_5, si_5, ai_6, si_6, ai_115, si_115, ai_116, si_116, ai_117, si_117, ai_263, si_263, ai_264, si_264, ai_266, si_266, ai_267, si_267, ai_268, si_268, ai_269, si_269, ai_90, si_90, ai_91, si_91, ai_92, si_92, ai_93, si_93, ai_114, si_114, ai_118, si_118, ai_120, si_120, ai_121, si_121, ai_122, si_122, ai_123, si_123, ai_265, si_265, ar_95, ar_101, ar_107, ar_133, ar_198, ar_124, ar_24, qlit, nI_add, pk_mul, pk_div, q_rem, q_modN, nI_ltI, nI_leI, nI_eq, uA_s, hz, Nat.le_refl, ↓reduceIte]
/-- so many times -/
def itf (R : Nat → Nat) : Nat → Nat → Nat
  | 0, x => x
  | n + 1, x => itf R n (R x)
theorem itf_lt {R : Nat → Nat} {q : Nat} (h : ∀ x, x < q → R x < q) : ∀ n x, x < q → itf R n x < q
  | 0, _, hx => hx
  | n + 1, x, hx => itf_lt h n (R x) (h x hx)
theorem itf_sq (R : Nat → Nat) : ∀ n x, itf (fun y => R (R y)) n x = itf R (2 * n) x
  | 0, _ => rfl
  | n + 1, x => by rw [itf, itf_sq R n, show 2 * (n + 1) = (2 * n + 1) + 1 by omega, itf, itf]
theorem st_rep51 (hf : f < nF) {rm : Nat} (lm : qL A rm 64) : ∀ k n K r4 r5 S M Q, k < K → n < 2 ^ 31 → n < 2 ^ k → S.1 1 2 = nI (qF f) → qL A r4 64 → qL A r5 64 → r4 ≠ rm → r5 ≠ rm → r4 ≠ r5 → rowR f S rm M → rowR f S r4 Q →
    ∃ S', fX4_repeat_51 K 113 rm r4 r5 (nI n) (qH A S) = some (.inl none, qH A S') ∧ rowR f S' rm (fun x => itf Q n (M x)) ∧ eqo (fun x => x = rm ∨ x = r4 ∨ x = r5) S S' := by
  intro k
  induction k with
  | zero =>
    intro n K r4 r5 S M Q hK h1 h2 hz l4 l5 n1 n2 n3 hM hQ
    obtain ⟨K, rfl⟩ : ∃ K', K = K' + 1 := ⟨K - 1, by omega⟩
    have : n = 0 := by omega
    subst this
    refine ⟨S, ?_, hM, eqo.rf⟩
    rw [fX4_repeat_51, if_pos (by decide)]
  | succ k ih =>
    intro n K r4 r5 S M Q hK h1 h2 hz l4 l5 n1 n2 n3 hM hQ
    obtain ⟨K, rfl⟩ : ∃ K', K = K' + 1 := ⟨K - 1, by omega⟩
    by_cases c0 : n = 0
    · subst c0
      refine ⟨S, ?_, hM, eqo.rf⟩
      rw [fX4_repeat_51, if_pos (by decide)]
    have e0 : ¬ nI n ≤ 0 := by rw [qlit, nI_leI h1 (by decide)]; omega
    have hk : n / 2 < 2 ^ k := by rw [Nat.pow_succ] at h2; omega
    have step : ∀ S1 M1, S1.1 1 2 = nI (qF f) → rowR f S1 rm M1 → rowR f S1 r4 Q → ∃ S', fX4_repeat_72 (fun p0 p3 p4 p5 p6 h => fX4_repeat_51 K p0 p3 p4 p5 p6 h) 113 rm r4 r5 (nI n) (qH A S1) = some (.inl none, qH A S') ∧ rowR f S' rm (fun x => itf Q (2 * (n / 2)) (M1 x)) ∧ eqo (fun x => x = rm ∨ x = r4 ∨ x = r5) S1 S' := by
      intro S1 M1 hz1 hM1 hQ1
      have hj := st_join (A := A) hf hz1 l4 l4 l5 hQ1 hQ1 n3
      obtain ⟨S', a1, a2, a3⟩ := ih (n / 2) K r5 r4 (uA S1 r5 (fa_fill (fun j => nI (Q (Q j))) (S1.2.1 r5) (qF f))) M1 (fun y => Q (Q y)) (by omega) (by omega) hk hz1 l5 l4 n2 n1 (Ne.symm n3) (hM1.ne (Ne.symm n2)) (rowR.fill (fun x hx => (hQ1 _ (hQ1 x hx).2).2))
      refine ⟨S', ?_, fun x hx => ?_, (eqo.uA (Or.inr (Or.inr rfl))).tr (a3.mo (fun b hb => by omega))⟩
      · unfold fX4_repeat_72
        rw [ob_113, q_cv, hj, q_cal, q_vn, q_half h1]
        exact a1
      · have := a2 x hx
        simp only [itf_sq] at this
        exact this
    rw [fX4_repeat_51, if_neg e0, q_odd h1]
    by_cases c2 : n % 2 = 1
    · have hj := st_join (A := A) hf hz l4 lm lm hQ hM n1
      obtain ⟨S', a1, a2, a3⟩ := step (uA S rm (fa_fill (fun j => nI (Q (M j))) (S.2.1 rm) (qF f))) (fun x => Q (M x)) hz (rowR.fill (fun x hx => (hQ _ (hM x hx).2).2)) (hQ.ne n1)
      refine ⟨S', ?_, fun x hx => ?_, (eqo.uA (Or.inl rfl)).tr a3⟩
      · rw [c2, if_pos (by rfl), ob_113, q_cv, hj, q_cal, q_vn]
        exact a1
      · have := a2 x hx
        have e : n = 2 * (n / 2) + 1 := by omega
        show _ = nI (itf Q n (M x)) ∧ itf Q n (M x) < qF f
        rw [e]
        exact this
    · have c3 : n % 2 = 0 := by omega
      obtain ⟨S', a1, a2, a3⟩ := step S M hz hM hQ
      refine ⟨S', ?_, fun x hx => ?_, a3⟩
      · rw [c3, if_neg (by decide)]
        exact a1
      · have := a2 x hx
        have e : n = 2 * (n / 2) := by omega
        rw [← e] at this
        exact this
theorem st_repeat (hf : f < nF) (hz : S.1 1 2 = nI (qF f)) {r rm n : Nat} {R : Nat → Nat} (lr : qL A r 64) (lm : qL A rm 64) (hr : rowR f S r R) (hn : n < 2 ^ 30) (n1 : r ≠ rm) (n2 : rm ≠ 116) (n3 : rm ≠ 117) (n4 : r ≠ 116) :
    ∃ S', fX4_repeat 113 r (nI n) rm (qH A S) = some (.inl none, qH A S') ∧ rowR f S' rm (fun x => itf R n x) ∧ eqo (fun x => x = rm ∨ x = 116 ∨ x = 117) S S' := by
  have hq := qz hf
  obtain ⟨S', a1, a2, a3⟩ := st_rep51 (A := A) hf lm 30 n FU 116 117 (uA (uA S rm (fa_fill (fun j => nI j) (S.2.1 rm) (qF f))) 116 (fa_fill (fun j => nI (R j)) (S.2.1 116) (qF f))) (fun x => x) R (by unfold FU; omega) (by omega) hn hz ql_116 ql_117 (Ne.symm n2) (Ne.symm n3) (by decide) (fun x hx => by rw [uA_ne n2, uA_at, fa_fill_in hx]; exact ⟨rfl, hx⟩) (rowR.fill (fun x hx => (hr x hx).2))
  refine ⟨S', ?_, a2, ((eqo.uA (Or.inl rfl)).tr (eqo.uA (Or.inr (Or.inl rfl)))).tr a3⟩
  unfold fX4_repeat
  simp only [gr_113_4, gr_113_5, q_bs, qlit]
  have h := loopF0 (fun k i s => fX4_repeat_15 k 113 r (nI n) rm 116 117 (nI i) (qH A s)) (qF f) (fun i => uA (uA S rm (fa_fill (fun j => nI j) (S.2.1 rm) i)) 116 (fa_fill (fun j => nI (R j)) (S.2.1 116) i)) (some (.inl none, qH A S')) (by omega) ?_ ?_
  · have e9 : uA (uA S rm (fa_fill (fun j => nI j) (S.2.1 rm) 0)) 116 (fa_fill (fun j => nI (R j)) (S.2.1 116) 0) = S := by rw [fa_fill_0, fa_fill_0, uA_self, uA_self]
    rw [e9] at h
    exact h
  · intro k i hlt
    have c : ¬ qF f ≤ i := by omega
    show fX4_repeat_15 (k + 1) 113 r (nI n) rm 116 117 (nI i) (qH A _) = _
    rw [fX4_repeat_15]
    simp (disch := omega) only [gr_113_2, q_bs, gi_1_2, uA_s, hz, nI_leI, c, ↓reduceIte]
    rw [q_si lm (by omega), q_bs, ua_uA n2, uaA, fa_fill_succ (fun j => nI j), q_ai lr (by omega), q_bs, uA_ne n4, uA_ne n1, (hr i hlt).1, q_si ql_116 (by omega), q_bs, uaA, fa_fill_succ (fun j => nI (R j)), nI_1]
  · intro k
    show fX4_repeat_15 (k + 1) 113 r (nI n) rm 116 117 (nI (qF f)) (qH A _) = _
    rw [fX4_repeat_15]
    simp (disch := omega) only [gr_113_2, q_bs, gi_1_2, uA_s, hz, nI_leI, Nat.le_refl, ↓reduceIte]
    exact a1
/-- how often a value -/
def cnV (q : Nat) (R : Nat → Nat) (v : Nat) : Nat := fb_ct (fun x => R x == v) q
theorem st_count (hf : f < nF) (hz : S.1 1 2 = nI (qF f)) {r v : Nat} {R : Nat → Nat} (lr : qL A r 64) (hr : rowR f S r R) (hv : v < 2 ^ 31) : fX4_countOf 113 r (nI v) (qH A S) = some (.inl (some (.int (nI (cnV (qF f) R v)))), qH A S) := by
  have hq := qz hf
  unfold fX4_countOf
  have h := loopF0 (fun k i c => fX4_countOf_5 k 113 r (nI v) (nI c) (nI i) (qH A S)) (qF f) (fun i => cnV i R v) (some (.inl (some (.int (nI (cnV (qF f) R v)))), qH A S)) (by omega) ?_ ?_
  · exact h
  · intro k i hlt
    have c : ¬ qF f ≤ i := by omega
    have hl := (hr i hlt).2
    show fX4_countOf_5 (k + 1) 113 r (nI v) (nI (cnV i R v)) (nI i) (qH A S) = _
    rw [fX4_countOf_5]
    simp (disch := omega) only [gr_113_2, q_bs, gi_1_2, hz, nI_leI, c, ↓reduceIte]
    rw [q_ai lr (by omega), q_bs, (hr i hlt).1]
    by_cases e : R i = v
    · rw [if_pos (by rw [e]), nI_1, nI_1]
      show _ = fX4_countOf_5 k 113 r (nI v) (nI (fb_ct _ (i + 1))) _ _
      rw [fb_ct_succ, if_pos (by simp [e])]; rfl
    · rw [if_neg (by rw [nI_eq (by omega) hv]; exact e), nI_1]
      show _ = fX4_countOf_5 k 113 r (nI v) (nI (fb_ct _ (i + 1))) _ _
      rw [fb_ct_succ, if_neg (by simp [e])]; rfl
  · intro k
    show fX4_countOf_5 (k + 1) 113 r (nI v) _ (nI (qF f)) (qH A S) = _
    rw [fX4_countOf_5]
    simp (disch := omega) only [gr_113_2, q_bs, gi_1_2, hz, nI_leI, Nat.le_refl, ↓reduceIte]
end QJ
