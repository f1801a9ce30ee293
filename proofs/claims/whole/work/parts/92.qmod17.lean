/-! the reference's changes, part 2 -/
theorem s_s : ∀ s, s < 32 → ((nI s).toBitVec.smod 32).toNat = s := by decide +kernel
theorem by_s (x : Int32) {s : Nat} (hs : s ≤ 24) : (x >>> nI s) &&& 255 = nI (byF x s) := by
  rw [pk_and (x >>> nI s) 8 (by decide)]
  unfold byF
  congr 1
  rw [show (256 : Nat) = 2 ^ 8 from rfl]
  apply Nat.eq_of_testBit_eq
  intro i
  rw [Nat.testBit_mod_two_pow, Nat.testBit_mod_two_pow, Nat.testBit_div_two_pow]
  by_cases h : i < 8
  · rw [decide_eq_true h, Bool.true_and, Bool.true_and, BitVec.testBit_toNat, BitVec.testBit_toNat, Int32.toBitVec_shiftRight, BitVec.sshiftRight_eq', BitVec.getLsbD_sshiftRight, s_s s (by omega), decide_eq_false (show ¬ 32 ≤ i by omega), if_pos (by omega), Nat.add_comm]
    rfl
  · rw [decide_eq_false h, Bool.false_and, Bool.false_and]
theorem s_k : ∀ k, k < 20 → ((24 : Int32) - ((8 : Int32) * (nI k - nI k / 4 * 4))) &&& 31 = nI (24 - 8 * (k % 4)) := by decide +kernel
section QMS
variable {A : AS} {S : SS} {G : GS} {f : Nat}
theorem m_puts (hf : f < nF) (hz : S.1 119 15 = nI (qF f)) {r1 r2 : Nat} {R1 R2 : Nat → Nat} (l1 : qL A r1 64) (l2 : qL A r2 64) (n1 : r1 ≠ 268) (n2 : r2 ≠ 268) (h1 : rowR f S r1 R1) (h2 : rowR f S r2 R2) :
    ∃ S', fX7_putsBehind 119 r1 r2 (qH A S) = some (.inl none, qH A S') ∧ eqo (fun x => x = r1 ∨ x = 268) S S' ∧ rowR f S' r1 (fun x => R2 (R1 x)) := by
  have hq := qz hf
  have c0 : ∀ x, x < qF f → R2 (R1 x) < qF f := fun x hx => (h2 _ (h1 x hx).2).2
  let S1 := uA S 268 (fa_fill (fun x => nI (R2 (R1 x))) (S.2.1 268) (qF f))
  let S2 := uA S1 r1 (fa_fill (fun x => nI (R2 (R1 x))) (S1.2.1 r1) (qF f))
  have hS1 : rowR f S1 268 (fun x => R2 (R1 x)) := rowR.fill c0
  have in2 : fX7_putsBehind_29 FU 119 r1 0 (qH A S1) = some (.inl none, qH A S2) := by
    have h := loopF0 (fun k x s => fX7_putsBehind_29 k 119 r1 (nI x) (qH A s)) (qF f) (fun x => uA S1 r1 (fa_fill (fun x => nI (R2 (R1 x))) (S1.2.1 r1) x)) (some (.inl none, qH A S2)) (by omega) ?_ ?_
    · rw [fa_fill_0, uA_self] at h
      exact h
    · intro k x hx
      have e : (uA S1 r1 (fa_fill (fun x => nI (R2 (R1 x))) (S1.2.1 r1) x)).2.1 268 x = nI (R2 (R1 x)) := by rw [uA_ne (Ne.symm n1)]; exact (hS1 x hx).1
      show fX7_putsBehind_29 (k + 1) 119 r1 (nI x) (qH A _) = _
      rw [fX7_putsBehind_29, gi_119_15, q_bs, uA_s]
      rw [show S1.1 119 15 = nI (qF f) from hz, if_neg (by rw [nI_leI (by omega) (by omega)]; omega), gr_119_26, q_bs, q_ai ql_268 (by omega), q_bs, e, q_si l1 (by omega), q_bs, uaA, nI_1]
      rw [show upd (fa_fill (fun x => nI (R2 (R1 x))) (S1.2.1 r1) x) x (nI (R2 (R1 x))) = fa_fill (fun x => nI (R2 (R1 x))) (S1.2.1 r1) (x + 1) from fa_fill_succ (fun x => nI (R2 (R1 x))) (S1.2.1 r1) x]
    · intro k
      show fX7_putsBehind_29 (k + 1) 119 r1 (nI (qF f)) (qH A _) = _
      rw [fX7_putsBehind_29, gi_119_15, q_bs, uA_s]
      rw [show S1.1 119 15 = nI (qF f) from hz, if_pos (by rw [nI_leI (by omega) (by omega)]; exact Nat.le_refl _)]
  refine ⟨S2, ?_, (eqo.uA (Or.inr rfl)).tr (eqo.uA (Or.inl rfl)), rowR.fill c0⟩
  unfold fX7_putsBehind
  have h := loopF0 (fun k x s => fX7_putsBehind_2 k 119 r1 r2 (nI x) (qH A s)) (qF f) (fun x => uA S 268 (fa_fill (fun x => nI (R2 (R1 x))) (S.2.1 268) x)) (some (.inl none, qH A S2)) (by omega) ?_ ?_
  · rw [fa_fill_0, uA_self] at h
    exact h
  · intro k x hx
    have hb := (h1 x hx).2
    show fX7_putsBehind_2 (k + 1) 119 r1 r2 (nI x) (qH A _) = _
    rw [fX7_putsBehind_2, gi_119_15, q_bs, uA_s, hz, if_neg (by rw [nI_leI (by omega) (by omega)]; omega), gr_119_26, q_bs, q_ai l1 (by omega), q_bs, uA_ne n1, (h1 x hx).1, q_ai l2 (by omega), q_bs, uA_ne n2, (h2 _ hb).1, q_si ql_268 (by omega), q_bs, uaA, nI_1]
    rw [show upd (fa_fill (fun x => nI (R2 (R1 x))) (S.2.1 268) x) x (nI (R2 (R1 x))) = fa_fill (fun x => nI (R2 (R1 x))) (S.2.1 268) (x + 1) from fa_fill_succ (fun x => nI (R2 (R1 x))) (S.2.1 268) x]
  · intro k
    show fX7_putsBehind_2 (k + 1) 119 r1 r2 (nI (qF f)) (qH A _) = _
    rw [fX7_putsBehind_2, gi_119_15, q_bs, uA_s, hz, if_pos (by rw [nI_leI (by omega) (by omega)]; exact Nat.le_refl _)]
    exact in2
theorem m_again (hc : G.1.2.1 < 6) : ∀ k n K S M Q, k < K → n < 2 ^ 31 → n < 2 ^ k → MB G S → rowR G.1.1 S 266 M → rowR G.1.1 S 267 Q →
    ∃ S', fX7_again_104 K 119 (nI n) (qH A S) = some (.inl (some (.int (nI G.1.2.1))), qH A S') ∧ MB (gN G (fun u => itf Q n (M u))) S' ∧ eqo (fun x => 119 ≤ x ∧ x < 270) S S' := by
  intro k
  induction k with
  | zero =>
    intro n K S M Q hK hn hn2 hB hM hQ
    obtain ⟨K, rfl⟩ : ∃ k', K = k' + 1 := ⟨K - 1, by omega⟩
    obtain rfl : n = 0 := by omega
    obtain ⟨S', a1, a2, a3⟩ := m_comes (A := A) hB hc hM
    refine ⟨S', ?_, a2, a3⟩
    rw [fX7_again_104, if_pos (by decide), ob_119, q_cv, a1, q_cal, q_vi]
  | succ k ih =>
    intro n K S M Q hK hn hn2 hB hM hQ
    obtain ⟨K, rfl⟩ : ∃ k', K = k' + 1 := ⟨K - 1, by omega⟩
    have hf := hB.1.2.1.1
    by_cases c0 : n = 0
    · subst c0
      obtain ⟨S', a1, a2, a3⟩ := m_comes (A := A) hB hc hM
      refine ⟨S', ?_, a2, a3⟩
      rw [fX7_again_104, if_pos (by decide), ob_119, q_cv, a1, q_cal, q_vi]
    · have e0 : ¬ nI n ≤ 0 := by rw [qlit, nI_leI hn (by decide)]; omega
      have d2 : nI n / 2 = nI (n / 2) := pk_div (d := 2) hn (by decide) (by decide)
      have r2 : nI n - nI n / 2 * 2 = nI (n % 2) := pk_rem (d := 2) hn (by decide) (by decide)
      have hp2 : 2 ^ (k + 1) = 2 * 2 ^ k := by rw [Nat.pow_succ, Nat.mul_comm]
      have step : ∀ T M', MB G T → rowR G.1.1 T 266 M' → rowR G.1.1 T 267 Q → ∃ S', fX7_again_127 (fun p0 p3 h => fX7_again_104 K p0 p3 h) 119 (nI n) (qH A T) = some (.inl (some (.int (nI G.1.2.1))), qH A S') ∧ MB (gN G (fun u => itf (fun y => Q (Q y)) (n / 2) (M' u))) S' ∧ eqo (fun x => 119 ≤ x ∧ x < 270) T S' := by
        intro T M' hBT hMT hQT
        obtain ⟨T1, a1, a2, a3⟩ := m_puts (A := A) (f := G.1.1) hf hBT.2.1.2.2.2.2.2.2.1 ql_267 ql_267 (by decide) (by decide) hQT hQT
        have hB1 := mb_eqo hBT a2 (fun b (hb : b = 267 ∨ b = 268) => by omega)
        obtain ⟨S', b1, b2, b3⟩ := ih (n / 2) K T1 M' (fun y => Q (Q y)) (by omega) (by omega) (by omega) hB1 (hMT.eqo a2 (by decide)) a3
        refine ⟨S', ?_, b2, (a2.mo (fun b (hb : b = 267 ∨ b = 268) => by omega)).tr b3⟩
        unfold fX7_again_127
        rw [gr_119_25, q_bs, q_bs, ob_119, q_cv, a1, q_cal, q_vn, if_neg (by decide), d2]
        exact b1
      rw [fX7_again_104, if_neg e0, if_neg (by decide), r2]
      by_cases c2 : n % 2 = 1
      · obtain ⟨T1, a1, a2, a3⟩ := m_puts (A := A) (f := G.1.1) hf hB.2.1.2.2.2.2.2.2.1 ql_266 ql_267 (by decide) (by decide) hM hQ
        have hB1 := mb_eqo hB a2 (fun b (hb : b = 266 ∨ b = 268) => by omega)
        obtain ⟨S', b1, b2, b3⟩ := step T1 (fun x => Q (M x)) hB1 a3 (hQ.eqo a2 (by decide))
        refine ⟨S', ?_, ?_, (a2.mo (fun b (hb : b = 266 ∨ b = 268) => by omega)).tr b3⟩
        · rw [if_pos (by rw [c2]; rfl), gr_119_24, q_bs, gr_119_25, q_bs, ob_119, q_cv, a1, q_cal, q_vn]
          exact b1
        · have e : (fun u => itf Q n (M u)) = (fun u => itf (fun y => Q (Q y)) (n / 2) (Q (M u))) := by
            funext u
            rw [itf_sq]
            have : n = 2 * (n / 2) + 1 := by omega
            conv => lhs; rw [this]
            rfl
          rw [e]
          exact b2
      · obtain ⟨S', b1, b2, b3⟩ := step S M hB hM hQ
        refine ⟨S', ?_, ?_, b3⟩
        · rw [if_neg (by rw [show n % 2 = 0 by omega]; decide)]
          exact b1
        · have e : (fun u => itf Q n (M u)) = (fun u => itf (fun y => Q (Q y)) (n / 2) (M u)) := by
            funext u
            rw [itf_sq]
            have : n = 2 * (n / 2) := by omega
            conv => lhs; rw [this]
          rw [e]
          exact b2
theorem om_again (h : MI G S) (x y : Int32) : mOK tcA (.int 0) A S (fX7_again 119 x y (qH A S)) (oP G x fun p => oN G 0 1000000000 y fun n => oRm G (.inr (.int (nI G.1.2.1)), gN G (fun u => itf (G.1.2.2 p) n u))) := by
  have hq := qz h.2.1.1
  unfold fX7_again fX7_again_18 fX7_again_44
  refine d_B h (fun S1 hB => ?_)
  refine d_P hB x (d_yes (w := 1) (j := 0) hB rfl rfl (by decide) (by decide) rfl) (fun p hp e => d_no hB ?_)
  refine d_N (lo := 0) (hi := 1000000000) y rfl rfl (by decide) (by decide) (d_yes (w := 2) (j := 1) hB rfl rfl (by decide) (by decide) rfl) (fun n n1 n2 e2 => d_no hB ?_)
  refine d_R (w := 3) hB rfl rfl (by decide) rfl (fun hc => ?_)
  subst e; subst e2
  have hf := hB.1.2.1.1
  obtain ⟨p1, p2⟩ := mb_now hB hp
  have hz := hB.2.1.2.2.2.2.2.2.1
  have key := loopP (fun k x s => fX7_again_69 k 119 (nI p) (nI n) (nI x) (qH A s)) (qF G.1.1) (fun x s => eqo (fun b => b = 266 ∨ b = 267) S1 s ∧ ∀ u, u < x → s.2.1 266 u = nI u ∧ s.2.1 267 u = nI (G.1.2.2 p u)) (fun o => ∃ S', o = some (.inl (some (.int (nI G.1.2.1))), qH A S') ∧ MB (gN G (fun u => itf (G.1.2.2 p) n u)) S' ∧ eqo (fun x => 119 ≤ x ∧ x < 270) S1 S') ?_ ?_ (qF G.1.1) 0 FU S1 (by omega) (by unfold FU; omega) ⟨eqo.rf, fun u hu => by omega⟩
  · obtain ⟨S', b1, b2, b3⟩ := key
    exact d_retG b2 b3 b1
  · rintro k x T hx ⟨g1, g2⟩
    have hzT : T.1 119 15 = nI (qF G.1.1) := by rw [(g1.1 119 (by decide)).1]; exact hz
    have n1 : nowR G.1.1 (ua T 266 x (nI x)) p (G.1.2.2 p) := (p1.eqo g1 (by decide)).eqo (eqo.ua (X := fun b => b = 266) rfl) (by decide)
    refine ⟨ua (ua T 266 x (nI x)) 267 x (nI (G.1.2.2 p x)), ⟨(g1.tr (eqo.ua (Or.inl rfl))).tr (eqo.ua (Or.inr rfl)), fun u hu => ?_⟩, ?_⟩
    · rw [ua_ne (show (266 : Nat) ≠ 267 by decide), ua_at, ua_at, ua_ne (show (267 : Nat) ≠ 266 by decide)]
      by_cases e : u = x
      · rw [if_pos e, if_pos e, e]; exact ⟨rfl, rfl⟩
      · rw [if_neg e, if_neg e]; exact g2 u (by omega)
    · show fX7_again_69 (k + 1) 119 (nI p) (nI n) (nI x) (qH A T) = _
      rw [fX7_again_69, gi_119_15, q_bs, hzT, if_neg (by rw [nI_leI (by omega) (by omega)]; omega), gr_119_24, q_bs, q_si ql_266 (by omega), q_bs, gr_119_25, q_bs, ob_119, q_cv, m_at hf p2 n1 hx, q_cal, q_vi, q_si ql_267 (by omega), q_bs, nI_1]
  · rintro k T ⟨g1, g2⟩
    have hzT : T.1 119 15 = nI (qF G.1.1) := by rw [(g1.1 119 (by decide)).1]; exact hz
    have hBT := mb_eqo hB g1 (fun b (hb : b = 266 ∨ b = 267) => by omega)
    obtain ⟨S', b1, b2, b3⟩ := m_again (A := A) hc 30 n FU T (fun u => u) (G.1.2.2 p) (by unfold FU; omega) (by omega) (by omega) hBT (fun u hu => ⟨(g2 u hu).1, hu⟩) (fun u hu => ⟨(g2 u hu).2, (p1 u hu).2⟩)
    refine ⟨S', ?_, b2, (g1.mo (fun b (hb : b = 266 ∨ b = 267) => by omega)).tr b3⟩
    show fX7_again_69 (k + 1) 119 (nI p) (nI n) (nI (qF G.1.1)) (qH A T) = _
    rw [fX7_again_69, gi_119_15, q_bs, hzT, if_pos (by rw [nI_leI (by omega) (by omega)]; exact Nat.le_refl _)]
    exact b1
/-- rows moved one down, from p on, up to row g, and of that the first x -/
def drR (G : GS) (p g x : Nat) (S1 T : SS) : Prop := eqo (fun b => b = 122) S1 T ∧ T.2.1 122 0 = S1.2.1 122 0 ∧ T.2.1 122 1 = S1.2.1 122 1 ∧ T.2.1 122 2 = nI (G.1.2.1 - 1) ∧ ∀ i, i < G.1.2.1 → ∀ u, u < qF G.1.1 → T.2.1 122 (3 + 64 * i + u) = nI (if (p ≤ i ∧ i < g) ∨ (i = g ∧ u < x) then G.1.2.2 (i + 1) u else G.1.2.2 i u)
theorem m_drop56 (hf : G.1.1 < nF) (h6 : G.1.2.1 ≤ 6) {S1 : SS} (hz : S1.1 119 15 = nI (qF G.1.1)) (hW : ∀ i, i < G.1.2.1 → ∀ u, u < qF G.1.1 → G.1.2.2 i u < qF G.1.1) {p g : Nat} (hp : p ≤ g) (hg : g + 1 < G.1.2.1) (h : drR G p g 0 S1 S) (K44 : Nat → Int32 → AH → RR) : ∃ T, drR G p (g + 1) 0 S1 T ∧ fX7_drop_56 K44 FU 119 (nI g) 0 (qH A S) = K44 119 (nI (g + 1)) (qH A T) := by
  have hq := qz hf
  have key := loopP (fun k x s => fX7_drop_56 K44 k 119 (nI g) (nI x) (qH A s)) (qF G.1.1) (fun x s => drR G p g x S1 s) (fun o => ∃ T, drR G p (g + 1) 0 S1 T ∧ o = K44 119 (nI (g + 1)) (qH A T)) ?_ ?_ (qF G.1.1) 0 FU S (by omega) (by unfold FU; omega) h
  · exact key
  · rintro k x T hx ⟨g1, g2, g3, g4, g5⟩
    have hzT : T.1 119 15 = nI (qF G.1.1) := by rw [(g1.1 119 (by decide)).1]; exact hz
    have n1 : nowR G.1.1 T (g + 1) (G.1.2.2 (g + 1)) := fun u hu => ⟨by rw [g5 (g + 1) hg u hu, if_neg (by omega)], hW _ hg u hu⟩
    refine ⟨ua T 122 (3 + 64 * g + x) (nI (G.1.2.2 (g + 1) x)), ⟨g1.tr (eqo.ua (X := fun b => b = 122) rfl), by rw [ua_at, if_neg (by omega)]; exact g2, by rw [ua_at, if_neg (by omega)]; exact g3, by rw [ua_at, if_neg (by omega)]; exact g4, fun i hi u hu => ?_⟩, ?_⟩
    · rw [ua_at]
      by_cases e : i = g ∧ u = x
      · rw [if_pos (by rw [e.1, e.2]), if_pos (Or.inr ⟨e.1, by omega⟩), e.1, e.2]
      · rw [if_neg (by omega), g5 i hi u hu]
        by_cases e2 : (p ≤ i ∧ i < g) ∨ (i = g ∧ u < x)
        · rw [if_pos e2, if_pos (by omega)]
        · rw [if_neg e2, if_neg (by omega)]
    · show fX7_drop_56 K44 (k + 1) 119 (nI g) (nI x) (qH A T) = _
      rw [fX7_drop_56, gi_119_15, q_bs, hzT, if_neg (by rw [nI_leI (by omega) (by omega)]; omega), gr_119_9, q_bs, ob_119, q_cv, nI_1, m_at hf (by omega) n1 hx, q_cal, q_vi, show (3 : Int32) = nI 3 from rfl, show (64 : Int32) = nI 64 from rfl, pk_mul, nI_add, nI_add, q_si ql_122 (by omega), q_bs, nI_1]
  · rintro k T ⟨g1, g2, g3, g4, g5⟩
    have hzT : T.1 119 15 = nI (qF G.1.1) := by rw [(g1.1 119 (by decide)).1]; exact hz
    refine ⟨T, ⟨g1, g2, g3, g4, fun i hi u hu => ?_⟩, ?_⟩
    · rw [g5 i hi u hu]
      by_cases e2 : (p ≤ i ∧ i < g) ∨ (i = g ∧ u < qF G.1.1)
      · rw [if_pos e2, if_pos (by omega)]
      · rw [if_neg e2, if_neg (by omega)]
    · show fX7_drop_56 K44 (k + 1) 119 (nI g) (nI (qF G.1.1)) (qH A T) = _
      rw [fX7_drop_56, gi_119_15, q_bs, hzT, if_pos (by rw [nI_leI (by omega) (by omega)]; exact Nat.le_refl _), nI_1]
theorem om_drop (h : MI G S) (x : Int32) : mOK tcA (.int 0) A S (fX7_drop 119 x (qH A S)) (oP G x fun p => (.inr (.int (nI (G.1.2.1 - 1))), gD G p)) := by
  have hq := qz h.2.1.1
  unfold fX7_drop fX7_drop_18
  refine d_B h (fun S1 hB => ?_)
  refine d_P hB x (d_yes (w := 1) (j := 0) hB rfl rfl (by decide) (by decide) rfl) (fun p hp e => d_no hB ?_)
  subst e
  have hf := hB.1.2.1.1
  obtain ⟨S2, a1, a2, a3⟩ := m_remembers (A := A) hB
  obtain ⟨s1, s2, s3, s4, s5, s6⟩ := a2.1.2.1
  have hc : S2.2.1 122 2 = nI G.1.2.1 := s4
  have h6 : G.1.2.1 ≤ 6 := s5
  have hz : S2.1 119 15 = nI (qF G.1.1) := a2.2.1.2.2.2.2.2.2.1
  have hW : ∀ i, i < G.1.2.1 → ∀ u, u < qF G.1.1 → G.1.2.2 i u < qF G.1.1 := fun i hi u hu => (s6 i hi u hu).2
  have h0 : drR G p p 0 S2 (ua S2 122 2 (nI (G.1.2.1 - 1))) := ⟨eqo.ua (X := fun b => b = 122) rfl, by rw [ua_at, if_neg (by decide)], by rw [ua_at, if_neg (by decide)], by rw [ua_at, if_pos rfl], fun i hi u hu => by rw [ua_at, if_neg (by omega), if_neg (by omega)]; exact (s6 i hi u hu).1⟩
  have key := loopP (fun k g s => fX7_drop_44 k 119 (nI g) (qH A s)) (G.1.2.1 - 1) (fun g s => p ≤ g ∧ drR G p g 0 S2 s) (fun o => ∃ T, drR G p (G.1.2.1 - 1) 0 S2 T ∧ o = some (.inl (some (.int (nI (G.1.2.1 - 1)))), qH A T)) ?_ ?_ (G.1.2.1 - 1 - p) p FU (ua S2 122 2 (nI (G.1.2.1 - 1))) (by omega) (by unfold FU; omega) ⟨Nat.le_refl _, h0⟩
  · obtain ⟨T, ⟨g1, g2, g3, g4, g5⟩, b1⟩ := key
    have hX : eqo (fun x => x = 122 ∨ (265 ≤ x ∧ x < 270)) S2 T := g1.mo (fun b hb => Or.inl hb)
    have hB3 : MB (gD G p) T := by
      refine mb_now2 a2 hX ⟨s1, by rw [g2]; exact s2, by rw [g3]; exact s3, g4, by show G.1.2.1 - 1 ≤ 6; omega, fun i hi u hu => ?_⟩ rfl
      have hi' : i < G.1.2.1 - 1 := hi
      have hu' : u < qF G.1.1 := hu
      show _ = nI ((if i < p then G.1.2.2 i else G.1.2.2 (i + 1)) u) ∧ (if i < p then G.1.2.2 i else G.1.2.2 (i + 1)) u < qF G.1.1
      rw [g5 i (by omega) u hu]
      by_cases e : i < p
      · rw [if_pos e, if_neg (by omega)]; exact ⟨rfl, hW i (by omega) u hu⟩
      · rw [if_neg e, if_pos (by omega)]; exact ⟨rfl, hW (i + 1) (by omega) u hu⟩
    refine d_retG hB3 ((a3.mo (fun b hb => by omega)).tr (hX.mo (fun b hb => by omega))) ?_
    rw [ob_119, q_cv, a1, q_cal, q_vn, gr_119_9, q_bs, show (2 : Int32) = nI 2 from rfl, q_ai ql_122 (by decide), q_bs, hc, show (nI G.1.2.1 - 1 : Int32) = nI (G.1.2.1 - 1) from pk_sub (b := 1) (by omega), q_si ql_122 (by decide), q_bs]
    exact b1
  · rintro k g T hg ⟨hpg, hd⟩
    obtain ⟨T', t1, t2⟩ := m_drop56 (A := A) hf h6 hz hW hpg (by omega) hd (fun p0 p2 h => fX7_drop_44 k p0 p2 h)
    refine ⟨T', ⟨by omega, t1⟩, ?_⟩
    show fX7_drop_44 (k + 1) 119 (nI g) (qH A T) = _
    rw [fX7_drop_44, gr_119_9, q_bs, show (2 : Int32) = nI 2 from rfl, q_ai ql_122 (by decide), q_bs, hd.2.2.2.1, if_neg (by rw [nI_leI (by omega) (by omega)]; omega), t2]
  · rintro k T ⟨hpg, hd⟩
    refine ⟨T, hd, ?_⟩
    show fX7_drop_44 (k + 1) 119 (nI (G.1.2.1 - 1)) (qH A T) = _
    rw [fX7_drop_44, gr_119_9, q_bs, show (2 : Int32) = nI 2 from rfl, q_ai ql_122 (by decide), q_bs, hd.2.2.2.1, if_pos (by rw [nI_leI (by omega) (by omega)]; exact Nat.le_refl _), q_bs, q_ai ql_122 (by decide), q_bs, hd.2.2.2.1]
theorem om_undo (h : MI G S) : mOK tcA (.int 0) A S (fX7_undo 119 (qH A S)) (gU G) := by
  obtain ⟨h1, h2, ⟨h3, h4, h5⟩, ⟨h6, h7, h8⟩, h9, h10⟩ := mi_0 (v := 0) h
  have hb : (us S 119 0 0).1 119 12 = nI G.2.1.1 := h4
  unfold gU fX7_undo
  rw [pi_119_0, q_bs, gi_119_12, q_bs, hb]
  by_cases c : G.2.1.1 = 0
  · rw [if_pos c, if_pos (by rw [c]; rfl)]
    exact ⟨us S 119 0 0, mi_0 h, eqo.us (by decide), by rw [us_at, if_pos rfl], rfl⟩
  · rw [if_neg c, if_neg (by rw [qlit, nI_eq (by omega) (by decide)]; exact c), q_bs, show (nI G.2.1.1 - 1 : Int32) = nI (G.2.1.1 - 1) from pk_sub (b := 1) (by omega), pi_119_12, q_bs]
    let S1 := us (us S 119 0 0) 119 12 (nI (G.2.1.1 - 1))
    have b1 : S1.1 119 12 = nI (G.2.1.1 - 1) := by show (us _ _ _ _).1 119 12 = _; rw [us_at, if_pos rfl]
    let S2 := uA S1 122 (fa_fill (S1.2.1 (124 + 1 + (G.2.1.1 - 1))) (S1.2.1 122) 387)
    have hp := h5 0 (by omega)
    rw [Nat.sub_zero] at hp
    have hn : mrR S2 122 (G.2.1.2 0) := mr_cp (S := S1) (b := 122) (mr_ro hp rfl)
    have eX : eqo (fun x => 119 ≤ x ∧ x < 270) S S2 := ((eqo.us (by decide)).tr (eqo.us (by decide))).tr (eqo.uA (by decide))
    have sc : ∀ k, k ≠ 12 → S2.1 119 k = (us S 119 0 0).1 119 k := fun k hk => by show (us (us S 119 0 0) 119 12 (nI (G.2.1.1 - 1))).1 119 k = _; rw [us_at, if_neg hk]
    have er : ∀ b, b ≠ 122 → S2.2.1 b = (us S 119 0 0).2.1 b := fun b hb => uA_ne hb
    refine ⟨S2, ⟨?_, hn, ⟨by show G.2.1.1 - 1 ≤ 8; omega, b1, fun k hk => ?_⟩, ⟨h6, by rw [sc _ (by decide)]; exact h7, fun i hi => by rw [er _ (by decide)]; exact h8 i hi⟩, fun j hj => by rw [er _ (by decide)]; exact h9 j hj, by rw [sc _ (by decide)]; exact h10⟩, eX, by rw [sc _ (by decide), us_at, if_pos rfl], ?_⟩
    · rcases h1 with ⟨g, hg, hT⟩ | ⟨u1, u2⟩
      · exact Or.inl ⟨g, hg, tm_gen hg hT (fun b hb => er b (by omega)) (fun k hk => sc k (by omega))⟩
      · exact Or.inr ⟨by rw [sc _ (by decide)]; exact u1, by rw [sc _ (by decide)]; exact u2⟩
    · have hk' : k < G.2.1.1 - 1 := hk
      have hh := h5 (k + 1) (by omega)
      rw [show G.2.1.1 - 1 - (k + 1) = G.2.1.1 - 1 - 1 - k by omega] at hh
      exact mr_ro hh (er _ (by omega))
    · rw [gr_119_11, q_bs, gi_119_12, q_bs]
      rw [show (us (us S 119 0 0) 119 12 (nI (G.2.1.1 - 1))).1 119 12 = nI (G.2.1.1 - 1) from b1, ar_124 (by omega), q_bs, gr_119_9, q_bs, m_copies (ql_past _ (by omega)) ql_122 (by omega), q_cal, q_vn, gi_119_12, q_bs]
      rw [show (uA (us (us S 119 0 0) 119 12 (nI (G.2.1.1 - 1))) 122 (fa_fill ((us (us S 119 0 0) 119 12 (nI (G.2.1.1 - 1))).2.1 (124 + 1 + (G.2.1.1 - 1))) ((us (us S 119 0 0) 119 12 (nI (G.2.1.1 - 1))).2.1 122) 387)).1 119 12 = nI (G.2.1.1 - 1) from b1]
theorem mi_byte (h : MI G S) {b : Nat} (hb : b < 256) (hl : G.2.2.1.1 < 300) : MI (gB G b) (us (ua S 121 G.2.2.1.1 (nI b)) 119 2 (nI (G.2.2.1.1 + 1))) := by
  obtain ⟨h1, h2, ⟨h3, h4, h5⟩, ⟨h6, h7, h8⟩, h9, h10⟩ := h
  have sc : ∀ k, k ≠ 2 → (us (ua S 121 G.2.2.1.1 (nI b)) 119 2 (nI (G.2.2.1.1 + 1))).1 119 k = S.1 119 k := fun k hk => by rw [us_at, if_neg hk]; rfl
  have er : ∀ r, r ≠ 121 → (us (ua S 121 G.2.2.1.1 (nI b)) 119 2 (nI (G.2.2.1.1 + 1))).2.1 r = S.2.1 r := fun r hr => ua_ne hr
  refine ⟨?_, mr_ro h2 (er _ (by decide)), ⟨h3, by rw [sc _ (by decide)]; exact h4, fun k (hk : k < G.2.1.1) => mr_ro (h5 k hk) (er (124 + 1 + (G.2.1.1 - 1 - k)) (by omega))⟩, ⟨by show G.2.2.1.1 + 1 ≤ 300; omega, by rw [us_at, if_pos rfl]; rfl, fun i hi => ?_⟩, fun j hj => by rw [er _ (by decide)]; exact h9 j hj, by rw [sc _ (by decide)]; exact h10⟩
  · rcases h1 with ⟨g, hg, hT⟩ | ⟨u1, u2⟩
    · exact Or.inl ⟨g, hg, tm_gen hg hT (fun b hb => er b (by omega)) (fun k hk => sc k (by omega))⟩
    · exact Or.inr ⟨by rw [sc _ (by decide)]; exact u1, by rw [sc _ (by decide)]; exact u2⟩
  · have hi' : i < G.2.2.1.1 + 1 := hi
    show _ = nI (if i = G.2.2.1.1 then b else G.2.2.1.2 i) ∧ (if i = G.2.2.1.1 then b else G.2.2.1.2 i) < 256
    rw [us_r, ua_at]
    by_cases e : i = G.2.2.1.1
    · rw [if_pos e, if_pos e]; exact ⟨rfl, hb⟩
    · rw [if_neg e, if_neg e]; exact h8 i (by omega)
theorem m_feed1 (h : MI G S) (hl : G.2.2.1.1 < 300) {k : Nat} (hk : k < 20) (x : Int32) (K23 : Nat → Int32 → Int32 → Int32 → Int32 → Int32 → Int32 → AH → RR) (a b c d e : Int32) : ∃ S', fX7_feed_76 K23 119 a b c d e (nI k) x (qH A S) = K23 119 a b c d e (nI (k + 1)) (qH A S') ∧ MI (gB G (byF x (24 - 8 * (k % 4)))) S' ∧ eqo (fun x => 119 ≤ x ∧ x < 270) S S' ∧ S'.1 119 0 = S.1 119 0 := by
  have b9 : byF x (24 - 8 * (k % 4)) < 256 := Nat.mod_lt _ (by decide)
  refine ⟨us (ua S 121 G.2.2.1.1 (nI (byF x (24 - 8 * (k % 4))))) 119 2 (nI (G.2.2.1.1 + 1)), ?_, mi_byte h b9 hl, (eqo.ua (by decide)).tr (eqo.us (by decide)), by rw [us_at, if_neg (by decide)]; rfl⟩
  have h7 := h.2.2.2.1.2.1
  have hua : (ua S 121 G.2.2.1.1 (nI (byF x (24 - 8 * (k % 4))))).1 119 2 = nI G.2.2.1.1 := by rw [ua_s]; exact h7
  unfold fX7_feed_76
  rw [gr_119_8, q_bs, gi_119_2, q_bs, h7, if_neg (by decide), s_k k hk, by_s x (by omega), q_si ql_121 hl, q_bs, gi_119_2, q_bs, hua, nI_1, pi_119_2, q_bs, nI_1]
/-- the bytes of five words, the first so many -/
def gF (a b c d e : Int32) (G : GS) : Nat → GS
  | 0 => G
  | k + 1 => gB (gF a b c d e G k) (byF (if k < 4 then a else if k < 8 then b else if k < 12 then c else if k < 16 then d else e) (24 - 8 * (k % 4)))
theorem gF_len (a b c d e : Int32) (G : GS) : ∀ k, (gF a b c d e G k).2.2.1.1 = G.2.2.1.1 + k
  | 0 => rfl
  | k + 1 => by
    show (gF a b c d e G k).2.2.1.1 + 1 = _
    rw [gF_len a b c d e G k]
    rfl
theorem om_feed (h : MI G S) (a b c d e : Int32) : mOK tcA (.int 0) A S (fX7_feed 119 a b c d e (qH A S)) (if G.2.2.1.1 + 20 ≤ 300 then (.inr (.int (nI (G.2.2.1.1 + 20))), gW (gW (gW (gW (gW G a) b) c) d) e) else (.inr (.int (-1)), G)) := by
  have h7 : (us S 119 0 0).1 119 2 = nI G.2.2.1.1 := (mi_0 (v := 0) h).2.2.2.1.2.1
  have h6 := h.2.2.2.1.1
  unfold fX7_feed
  rw [pi_119_0, q_bs, gi_119_2, q_bs, h7, show (20 : Int32) = nI 20 from rfl, nI_add, show (300 : Int32) = nI 300 from rfl]
  by_cases hc : G.2.2.1.1 + 20 ≤ 300
  · rw [if_pos (nI_le hc (by decide)), if_pos hc]
    have key := loopP (fun K k s => fX7_feed_23 K 119 a b c d e (nI k) (qH A s)) 20 (fun k s => MI (gF a b c d e G k) s ∧ eqo (fun x => 119 ≤ x ∧ x < 270) S s ∧ s.1 119 0 = 0) (fun o => ∃ S', o = some (.inl (some (.int (nI (G.2.2.1.1 + 20)))), qH A S') ∧ MI (gF a b c d e G 20) S' ∧ eqo (fun x => 119 ≤ x ∧ x < 270) S S' ∧ S'.1 119 0 = 0) ?_ ?_ 20 0 FU (us S 119 0 0) (by omega) (by unfold FU; omega) ⟨mi_0 h, eqo.us (by decide), by rw [us_at, if_pos rfl]⟩
    · obtain ⟨S', a1, a2, a3, a4⟩ := key
      exact ⟨S', a2, a3, a4, a1⟩
    · rintro K k T hk ⟨g1, g2, g3⟩
      have hl := gF_len a b c d e G k
      obtain ⟨T', t1, t2, t3, t4⟩ := m_feed1 (A := A) g1 (by omega) hk (if k < 4 then a else if k < 8 then b else if k < 12 then c else if k < 16 then d else e) (fun p0 p1 p2 p3 p4 p5 p6 h => fX7_feed_23 K p0 p1 p2 p3 p4 p5 p6 h) a b c d e
      refine ⟨T', ⟨t2, g2.tr t3, t4.trans g3⟩, ?_⟩
      show fX7_feed_23 (K + 1) 119 a b c d e (nI k) (qH A T) = _
      rw [fX7_feed_23, if_neg (by rw [qlit, nI_leI (by decide) (by omega)]; omega), ← t1]
      by_cases c4 : k < 4
      · rw [if_neg (by rw [qlit, nI_leI (by decide) (by omega)]; omega), if_pos c4]
      · rw [if_pos (by rw [qlit, nI_leI (by decide) (by omega)]; omega), if_neg c4]
        by_cases c8 : k < 8
        · rw [if_neg (by rw [qlit, nI_leI (by decide) (by omega)]; omega), if_pos c8]
        · rw [if_pos (by rw [qlit, nI_leI (by decide) (by omega)]; omega), if_neg c8]
          by_cases c12 : k < 12
          · rw [if_neg (by rw [qlit, nI_leI (by decide) (by omega)]; omega), if_pos c12]
          · rw [if_pos (by rw [qlit, nI_leI (by decide) (by omega)]; omega), if_neg c12]
            by_cases c16 : k < 16
            · rw [if_neg (by rw [qlit, nI_leI (by decide) (by omega)]; omega), if_pos c16]
            · rw [if_pos (by rw [qlit, nI_leI (by decide) (by omega)]; omega), if_neg c16]
    · rintro K T ⟨g1, g2, g3⟩
      have hl : T.1 119 2 = nI (G.2.2.1.1 + 20) := by have := g1.2.2.2.1.2.1; rw [gF_len] at this; exact this
      refine ⟨T, ?_, g1, g2, g3⟩
      show fX7_feed_23 (K + 1) 119 a b c d e (nI 20) (qH A T) = _
      rw [fX7_feed_23, if_pos (by decide), gi_119_2, q_bs, hl]
  · rw [if_neg (nI_ge (by omega) (by omega)), if_neg hc]
    exact ⟨us S 119 0 0, mi_0 h, eqo.us (by decide), by rw [us_at, if_pos rfl], rfl⟩
end QMS
