/-! the component's cycles -/
theorem cmp0 (x y : Int64) : lg_cmp x y = 0 ↔ x = y := by
  unfold lg_cmp
  by_cases h1 : x > y
  · rw [if_pos h1]
    refine ⟨fun h => absurd h (by decide), fun h => ?_⟩
    subst h
    exact absurd h1 (by simp)
  · rw [if_neg h1]
    by_cases h2 : x = y
    · rw [if_pos h2]; exact ⟨fun _ => h2, fun _ => rfl⟩
    · rw [if_neg h2]; exact ⟨fun h => absurd h (by decide), fun h => absurd h h2⟩
theorem q_tb0 {n k : Nat} (hn : n < 2 ^ 64) (hk : k < 64) : (lg_cmp (((lN n).toUInt64 >>> ((nI k).toInt64.toUInt64 &&& Int64.toUInt64 63)).toInt64 &&& 1) 0 = 0) ↔ n.testBit k = false := by
  rw [cmp0, wb_bit hn hk, Nat.testBit_eq_decide_div_mod_eq]
  have h := Nat.mod_lt (n / 2 ^ k) (show 0 < 2 by decide)
  rw [show (0 : Int64) = lN 0 from rfl, lN_eq (by omega) (by decide)]
  simp
theorem q_tb1 {n k : Nat} (hn : n < 2 ^ 64) (hk : k < 64) : (lg_cmp (((lN n).toUInt64 >>> ((nI k).toInt64.toUInt64 &&& Int64.toUInt64 63)).toInt64 &&& 1) 1 = 0) ↔ n.testBit k = true := by
  rw [cmp0, wb_bit hn hk, Nat.testBit_eq_decide_div_mod_eq]
  have h := Nat.mod_lt (n / 2 ^ k) (show 0 < 2 by decide)
  rw [show (1 : Int64) = lN 1 from rfl, lN_eq (by omega) (by decide)]
  simp
def moF (R : Nat → Nat) (M s : Nat) : Nat → Nat
  | 0 => M
  | n + 1 => moF R M s n ||| 2 ^ itf R n s
def mdF (q : Nat) (R : Nat → Nat) : Nat → Nat
  | 0 => 0
  | s + 1 => moF R (mdF q R s) s (cyc q R s)
theorem mo_bit {R : Nat → Nat} {M s : Nat} (y : Nat) : ∀ n, (moF R M s n).testBit y = true ↔ M.testBit y = true ∨ ∃ i, i < n ∧ itf R i s = y
  | 0 => by simp [moF]
  | n + 1 => by
    rw [moF, fb_bit_set]
    simp only [Bool.or_eq_true, decide_eq_true_eq, mo_bit y n]
    constructor
    · rintro ((h | ⟨i, h1, h2⟩) | h)
      · exact Or.inl h
      · exact Or.inr ⟨i, by omega, h2⟩
      · exact Or.inr ⟨n, by omega, h.symm⟩
    · rintro (h | ⟨i, h1, h2⟩)
      · exact Or.inl (Or.inl h)
      · by_cases e : i = n
        · subst e; exact Or.inr h2.symm
        · exact Or.inl (Or.inr ⟨i, by omega, h2⟩)
theorem mo_lt {R : Nat → Nat} {M s q : Nat} (hq : q ≤ 64) (hR : ∀ x, x < q → R x < q) (hs : s < q) (hM : M < 2 ^ 64) : ∀ n, moF R M s n < 2 ^ 64
  | 0 => hM
  | n + 1 => Nat.or_lt_two_pow (mo_lt hq hR hs hM n) (Nat.pow_lt_pow_right (by decide) (by have := itf_lt hR n s hs; omega))
theorem md_lt {R : Nat → Nat} {q : Nat} (hq : q ≤ 64) (hR : ∀ x, x < q → R x < q) : ∀ s, s ≤ q → mdF q R s < 2 ^ 64
  | 0, _ => by show 0 < 2 ^ 64; decide
  | s + 1, h => mo_lt hq hR (by omega) (md_lt hq hR s (by omega)) _
theorem md_bit {R : Nat → Nat} {q : Nat} (h : pmB q R = true) (hR : ∀ x, x < q → R x < q) (y : Nat) : ∀ s, s ≤ q → ((mdF q R s).testBit y = true ↔ ∃ z, z < s ∧ ∃ n, itf R n z = y)
  | 0, _ => by simp [mdF]
  | s + 1, hs => by
    rw [mdF, mo_bit, md_bit h hR y s (by omega)]
    rcases cyc_two h hR (show s < q by omega) with ⟨⟨z, z1, m, z2⟩, c⟩ | ⟨c0, c1, c2, c3, c4⟩
    · rw [c]
      constructor
      · rintro (⟨z, h1, h2⟩ | ⟨i, h1, -⟩)
        · exact ⟨z, by omega, h2⟩
        · omega
      · rintro ⟨w, w1, n, w2⟩
        by_cases e : w = s
        · subst e
          exact Or.inl ⟨z, z1, m + n, by rw [itf_add, z2, w2]⟩
        · exact Or.inl ⟨w, by omega, n, w2⟩
    · constructor
      · rintro (⟨z, h1, h2⟩ | ⟨i, h1, h2⟩)
        · exact ⟨z, by omega, h2⟩
        · exact ⟨s, by omega, i, h2⟩
      · rintro ⟨w, w1, n, w2⟩
        by_cases e : w = s
        · subst e
          refine Or.inr ⟨n % cyc q R w, Nat.mod_lt _ (by omega), ?_⟩
          have e9 : n = (n / cyc q R w) * cyc q R w + n % cyc q R w := by rw [Nat.mul_comm]; exact (Nat.div_add_mod n _).symm
          rw [← w2]
          conv => rhs; rw [e9]
          rw [itf_add, it_mul c3]
        · exact Or.inl ⟨w, by omega, n, w2⟩
/-- how many cycles of a length, how many at all, that begin below s -/
def ccF (q : Nat) (R : Nat → Nat) (s n : Nat) : Nat := if n = 0 then 0 else fb_ct (fun x => cyc q R x == n) s
def ctF (q : Nat) (R : Nat → Nat) (s : Nat) : Nat := fb_ct (fun x => cyc q R x != 0) s
section QC
variable {A : AS} {S : SS} {f : Nat}
theorem st_fc50 (hf : f < nF) (hz : S.1 1 2 = nI (qF f)) {r : Nat} {R : Nat → Nat} (lr : qL A r 64) (hr : rowR f S r R) (hp : pmB (qF f) R = true) {s : Nat} (hs : s < qF f) (K31 : Nat → Nat → Int64 → Int32 → AH → RR) :
    fX4_findCycles_50 K31 FU 113 r (lN (mdF (qF f) R s)) (nI s) 0 (nI s) (qH A S) = fX4_findCycles_92 K31 113 r (lN (mdF (qF f) R (s + 1))) (nI s) (nI (cyc (qF f) R s)) (qH A S) := by
  have hq := qz hf
  have hR : ∀ x, x < qF f → R x < qF f := fun x hx => (hr x hx).2
  have hM := md_lt hq.1 hR s (by omega)
  have two := cyc_two hp hR hs
  have hcl : cyc (qF f) R s ≤ qF f := by rcases two with ⟨-, h⟩ | ⟨-, -, h, -⟩ <;> omega
  have h := loopF0 (fun k n w => fX4_findCycles_50 K31 k 113 r (lN w) (nI s) (nI n) (nI (itf R n s)) (qH A S)) (cyc (qF f) R s) (fun n => moF R (mdF (qF f) R s) s n) (fX4_findCycles_92 K31 113 r (lN (mdF (qF f) R (s + 1))) (nI s) (nI (cyc (qF f) R s)) (qH A S)) (by omega) ?_ ?_
  · exact h
  · intro k n hn
    have hi := itf_lt hR n s hs
    have c : ¬ qF f ≤ n := by omega
    have hml := mo_lt hq.1 hR hs hM n
    have hnot : (moF R (mdF (qF f) R s) s n).testBit (itf R n s) = false := by
      cases hb : (moF R (mdF (qF f) R s) s n).testBit (itf R n s) with
      | false => rfl
      | true =>
        exfalso
        rcases two with ⟨-, h0⟩ | ⟨c0, c1, c2, c3, c4⟩
        · omega
        · rcases (mo_bit _ n).mp hb with h | ⟨i, i1, i2⟩
          · obtain ⟨z, z1, m, z2⟩ := (md_bit hp hR _ s (by omega)).mp h
            refine c0 ⟨z, z1, m + (cyc (qF f) R s - n), ?_⟩
            rw [itf_add, z2, ← itf_add, show n + (cyc (qF f) R s - n) = cyc (qF f) R s by omega, c3]
          · have e : itf R (n - i) s = s := by
              have : itf R i (itf R (n - i) s) = itf R i s := by rw [← itf_add, show n - i + i = n by omega]; exact i2.symm
              exact it_inj hp hR i (itf_lt hR _ s hs) hs this
            have := c4 (n - i) (by omega) (by omega)
            omega
    show fX4_findCycles_50 K31 (k + 1) 113 r (lN _) (nI s) (nI n) (nI (itf R n s)) (qH A S) = _
    rw [fX4_findCycles_50]
    simp (disch := omega) only [gr_113_2, q_bs, gi_1_2, hz, nI_leI, c, ↓reduceIte]
    rw [if_pos ((q_tb0 hml (by omega)).mpr hnot), q_letJ, q_sh1 (by omega), wb_or hml (Nat.pow_lt_pow_right (by decide) (by omega)), q_ai lr (by omega), q_bs, (hr _ hi).1, nI_1, ← itf_s R n s]
    rfl
  · intro k
    have hml := mo_lt hq.1 hR hs hM (cyc (qF f) R s)
    show fX4_findCycles_50 K31 (k + 1) 113 r (lN _) (nI s) (nI _) (nI (itf R (cyc (qF f) R s) s)) (qH A S) = _
    rw [fX4_findCycles_50]
    simp (disch := omega) only [gr_113_2, q_bs, gi_1_2, hz]
    have hend : ∀ o, o = fX4_findCycles_92 K31 113 r (lN (moF R (mdF (qF f) R s) s (cyc (qF f) R s))) (nI s) (nI (cyc (qF f) R s)) (qH A S) → o = fX4_findCycles_92 K31 113 r (lN (mdF (qF f) R (s + 1))) (nI s) (nI (cyc (qF f) R s)) (qH A S) := fun o ho => ho
    apply hend
    by_cases c : qF f ≤ cyc (qF f) R s
    · rw [if_pos (by rw [nI_leI (by omega) (by omega)]; exact c)]
    · rw [if_neg (by rw [nI_leI (by omega) (by omega)]; exact c)]
      have hi := itf_lt hR (cyc (qF f) R s) s hs
      have hyes : (moF R (mdF (qF f) R s) s (cyc (qF f) R s)).testBit (itf R (cyc (qF f) R s) s) = true := by
        rw [mo_bit]
        rcases two with ⟨hz0, h0⟩ | ⟨c0, c1, c2, c3, c4⟩
        · rw [h0]
          exact Or.inl ((md_bit hp hR _ s (by omega)).mpr hz0)
        · rw [c3]
          exact Or.inr ⟨0, by omega, rfl⟩
      rw [if_neg (by rw [q_tb0 hml (by omega), hyes]; decide)]
theorem st_fc31 (hf : f < nF) {r : Nat} {R : Nat → Nat} (lr : qL A r 64) (hn : r ≠ 114) (hp : pmB (qF f) R = true) : ∀ d s K T, s + d = qF f → d < K → (T.1 1 2 = nI (qF f) ∧ rowR f T r R ∧ (∀ n, n < 65 → T.2.1 114 n = nI (ccF (qF f) R s n)) ∧ T.1 113 0 = nI (ctF (qF f) R s)) →
    ∃ S', (eqo (fun x => x = 113 ∨ x = 114) T S' ∧ (∀ n, n < 65 → S'.2.1 114 n = nI (ccF (qF f) R (qF f) n)) ∧ S'.1 113 0 = nI (ctF (qF f) R (qF f))) ∧ fX4_findCycles_31 K 113 r (lN (mdF (qF f) R s)) (nI s) (qH A T) = some (.inl none, qH A S') := by
  have hq := qz hf
  intro d
  induction d with
  | zero =>
    rintro s K T h1 h2 ⟨hz, hr, h3, h4⟩
    obtain ⟨K, rfl⟩ : ∃ k', K = k' + 1 := ⟨K - 1, by omega⟩
    obtain rfl : s = qF f := by omega
    refine ⟨T, ⟨eqo.rf, h3, h4⟩, ?_⟩
    rw [fX4_findCycles_31]
    simp (disch := omega) only [gr_113_2, q_bs, gi_1_2, hz, nI_leI, Nat.le_refl, ↓reduceIte]
  | succ d ih =>
    rintro s K T h1 h2 ⟨hz, hr, h3, h4⟩
    obtain ⟨K, rfl⟩ : ∃ k', K = k' + 1 := ⟨K - 1, by omega⟩
    have hs : s < qF f := by omega
    have hR : ∀ x, x < qF f → R x < qF f := fun x hx => (hr x hx).2
    have c : ¬ qF f ≤ s := by omega
    have hcl : cyc (qF f) R s ≤ qF f := by rcases cyc_two hp hR hs with ⟨-, h⟩ | ⟨-, -, h, -⟩ <;> omega
    have hcc : ∀ n, ccF (qF f) R s n ≤ s := fun n => by unfold ccF; split; exact Nat.zero_le _; exact fb_ct_le _ _
    have hct : ctF (qF f) R s ≤ s := fb_ct_le _ _
    rw [fX4_findCycles_31]
    simp (disch := omega) only [gr_113_2, q_bs, gi_1_2, hz, nI_leI, c, ↓reduceIte]
    rw [st_fc50 hf hz lr hr hp hs]
    unfold fX4_findCycles_92
    by_cases c0 : cyc (qF f) R s = 0
    · rw [if_pos (by rw [c0]; decide), nI_1]
      refine ih (s + 1) K T (by omega) (by omega) ⟨hz, hr, fun n hn => ?_, ?_⟩
      · rw [h3 n hn]
        unfold ccF
        split
        · rfl
        · next e => rw [fb_ct_succ, if_neg (by rw [c0]; simp; exact fun h => e h.symm)]; rfl
      · rw [h4]; unfold ctF; rw [fb_ct_succ, if_neg (by rw [c0]; decide)]; rfl
    · rw [if_neg (by rw [qlit, nI_leI (by omega) (by decide)]; omega), gr_113_1, q_bs, q_ai ql_114 (by omega), q_bs, h3 _ (by omega), nI_1, q_si ql_114 (by omega), q_bs, gi_113_0, q_bs, ua_s, h4, nI_1, pi_113_0, q_bs, nI_1]
      have x1 : ∀ n, n < 65 → (us (ua T 114 (cyc (qF f) R s) (nI (ccF (qF f) R s (cyc (qF f) R s) + 1))) 113 0 (nI (ctF (qF f) R s + 1))).2.1 114 n = nI (ccF (qF f) R (s + 1) n) := by
        intro n hn9
        rw [us_r, ua_at]
        by_cases e : n = cyc (qF f) R s
        · rw [if_pos e, e]
          unfold ccF
          rw [if_neg c0, if_neg c0, fb_ct_succ, if_pos (by simp)]
        · rw [if_neg e, h3 n hn9]
          unfold ccF
          split
          · rfl
          · rw [fb_ct_succ, if_neg (by simp; exact fun h => e h.symm)]; rfl
      have x2 : (us (ua T 114 (cyc (qF f) R s) (nI (ccF (qF f) R s (cyc (qF f) R s) + 1))) 113 0 (nI (ctF (qF f) R s + 1))).1 113 0 = nI (ctF (qF f) R (s + 1)) := by
        rw [us_at, if_pos rfl]
        unfold ctF
        rw [fb_ct_succ, if_pos (by simp [c0])]
      obtain ⟨S', ⟨a1, a2, a3⟩, a4⟩ := ih (s + 1) K (us (ua T 114 (cyc (qF f) R s) (nI (ccF (qF f) R s (cyc (qF f) R s) + 1))) 113 0 (nI (ctF (qF f) R s + 1))) (by omega) (by omega) ⟨by rw [us_ne (by decide), ua_s]; exact hz, fun x hx => by rw [us_r, ua_ne hn]; exact hr x hx, x1, x2⟩
      exact ⟨S', ⟨((eqo.ua (X := fun x => x = 113 ∨ x = 114) (Or.inr rfl)).tr (eqo.us (Or.inl rfl))).tr a1, a2, a3⟩, a4⟩
theorem st_find (hf : f < nF) (hz : S.1 1 2 = nI (qF f)) {r : Nat} {R : Nat → Nat} (lr : qL A r 64) (hr : rowR f S r R) (hn : r ≠ 114) (hp : pmB (qF f) R = true) :
    ∃ S', fX4_findCycles 113 r (qH A S) = some (.inl none, qH A S') ∧ eqo (fun x => x = 113 ∨ x = 114) S S' ∧ (∀ n, n < 65 → S'.2.1 114 n = nI (ccF (qF f) R (qF f) n)) ∧ S'.1 113 0 = nI (ctF (qF f) R (qF f)) := by
  have hq := qz hf
  obtain ⟨S', ⟨a1, a2, a3⟩, a4⟩ := st_fc31 (A := A) hf lr hn hp (qF f) 0 FU (us (uA S 114 (fa_fill (fun _ => nI 0) (S.2.1 114) 65)) 113 0 0) (by omega) (by unfold FU; omega) ⟨by rw [us_ne (by decide), uA_s]; exact hz, fun x hx => by rw [us_r, uA_ne hn]; exact hr x hx, fun n hn9 => by rw [us_r, uA_at, fa_fill_in hn9]; unfold ccF; split <;> rfl, by rw [us_at, if_pos rfl]; rfl⟩
  refine ⟨S', ?_, ((eqo.uA (X := fun x => x = 113 ∨ x = 114) (Or.inr rfl)).tr (eqo.us (Or.inl rfl))).tr a1, a2, a3⟩
  unfold fX4_findCycles
  have h := loopF0 (fun j i s => fX4_findCycles_2 j 113 r (nI i) (qH A s)) 65 (fun i => uA S 114 (fa_fill (fun _ => nI 0) (S.2.1 114) i)) (some (.inl none, qH A S')) (by decide) ?_ ?_
  · rw [fa_fill_0, uA_self] at h
    exact h
  · intro j i hlt
    show fX4_findCycles_2 (j + 1) 113 r (nI i) (qH A _) = _
    rw [fX4_findCycles_2, if_neg (by rw [qlit, nI_ltI (by decide) (by omega)]; omega), gr_113_1, q_bs, q_si ql_114 (by omega), q_bs, uaA, nI_1]
    have e9 : upd (fa_fill (fun _ => nI 0) (S.2.1 114) i) i 0 = fa_fill (fun _ => nI 0) (S.2.1 114) (i + 1) := fa_fill_succ (fun _ => nI 0) (S.2.1 114) i
    rw [e9]
  · intro j
    show fX4_findCycles_2 (j + 1) 113 r (nI 65) (qH A _) = _
    rw [fX4_findCycles_2, if_pos (by decide), pi_113_0, q_bs]
    exact a4
end QC
