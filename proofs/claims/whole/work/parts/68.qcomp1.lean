/-! the component as a whole: its state, its refusals, its questions -/
abbrev GS : Type := PS × (Nat × (Nat → PS)) × (Nat × (Nat → Nat)) × (Nat → Int32) × Int32
def qJ (A : AS) : AS := (A.1 + 1, A.2.1 + 6, A.2.2)
def CI (G : GS) (S : SS) : Prop := TabC G.1.1 S ∧ stR S 7 G.1 ∧ hiR S G.2.1.1 G.2.1.2 ∧ (G.2.2.1.1 ≤ 300 ∧ S.1 89 0 = nI G.2.2.1.1 ∧ ∀ i, i < G.2.2.1.1 → S.2.1 90 i = nI (G.2.2.1.2 i) ∧ G.2.2.1.2 i < 256) ∧ (∀ j, j < 3 → S.2.1 118 j = G.2.2.2.1 j) ∧ S.1 0 8 = G.2.2.2.2
/-- one refusal more -/
def rfU (G : GS) (j : Nat) : GS := (G.1, G.2.1, G.2.2.1, upd G.2.2.2.1 j (G.2.2.2.1 j + 1), G.2.2.2.2)
theorem ci_eqo {G : GS} {S S' : SS} {X : Nat → Prop} (h : CI G S) (hX : eqo X S S') (hn : ∀ b, X b → 113 ≤ b ∧ b ≤ 117) : CI G S' := by
  obtain ⟨h1, h2, h3, ⟨h4, h5, h6⟩, h7, h8⟩ := h
  have no : ∀ b, b < 113 ∨ 117 < b → ¬ X b := fun b hb hx => by have := hn b hx; omega
  refine ⟨h1.eqo hX (fun b _ hb => no b (by omega)), h2.eqo hX (fun b _ hb => no b (by omega)), h3.eqo hX (fun b _ hb => no b (by omega)), ⟨h4, by rw [(hX.1 89 (no 89 (by omega))).1]; exact h5, fun i hi => by rw [(hX.1 90 (no 90 (by omega))).2]; exact h6 i hi⟩, fun j hj => by rw [(hX.1 118 (no 118 (by omega))).2]; exact h7 j hj, by rw [(hX.1 0 (no 0 (by omega))).1]; exact h8⟩
theorem ci_ref {G : GS} {S : SS} (h : CI G S) {j : Nat} (hj : j < 3) : CI (rfU G j) (ua S 118 j (G.2.2.2.1 j + 1)) ∧ eqo (fun x => x = 118) S (ua S 118 j (G.2.2.2.1 j + 1)) := by
  obtain ⟨h1, h2, h3, ⟨h4, h5, h6⟩, h7, h8⟩ := h
  have hX : eqo (fun x => x = 118) S (ua S 118 j (G.2.2.2.1 j + 1)) := eqo.ua rfl
  have no : ∀ b, b < 118 → ¬ (fun x => x = 118) b := fun b hb (hx : b = 118) => by omega
  refine ⟨⟨h1.eqo hX (fun b _ hb => no b (by omega)), h2.eqo hX (fun b _ hb => no b (by omega)), h3.eqo hX (fun b _ hb => no b (by omega)), ⟨h4, h5, fun i hi => by rw [ua_ne (by decide)]; exact h6 i hi⟩, fun i hi => ?_, h8⟩, hX⟩
  rw [ua_at]
  show _ = upd G.2.2.2.1 j (G.2.2.2.1 j + 1) i
  by_cases e : i = j
  · rw [if_pos e, e, pk_us]
  · rw [if_neg e, pk_un e]; exact h7 i hi
section QZ
variable {A : AS} {S : SS} {G : GS}
/-- what a refusal comes to -/
def refd (A : AS) (S : SS) (G : GS) (j e : Nat) (o : RR) : Prop := o = some (.inr e, qH (qJ A) (ua S 118 j (G.2.2.2.1 j + 1)))
theorem nd_poly (h : CI G S) (x : Int32) : (∃ p, p < G.1.2.1 ∧ x = nI p ∧ fX6_needPoly 0 x (qH A S) = some (.inl none, qH A S)) ∨ ((∀ p, p < G.1.2.1 → x ≠ nI p) ∧ refd A S G 0 0 (fX6_needPoly 0 x (qH A S))) := by
  have h4 := h.2.1.2.2.2.1
  have h5 := h.2.1.2.2.2.2.1
  have hs : isSt 7 = true := by decide
  have out : fX6_needPoly_15 0 (qH A S) = some (.inr 0, qH (qJ A) (ua S 118 0 (G.2.2.2.1 0 + 1))) := by
    unfold fX6_needPoly_15
    rw [gr_0_7, q_bs, show (0 : Int32) = nI 0 from rfl, q_ai ql_118 (by decide), q_bs, h.2.2.2.2.1 0 (by decide), q_si ql_118 (by decide), q_bs, q_junk]
    rfl
  unfold fX6_needPoly refd
  rcases pk_ix x (show G.1.2.1 < 2 ^ 31 by omega) with hx | hx | ⟨p, hp, rfl⟩
  · right
    refine ⟨fun p hp e => ?_, ?_⟩
    · subst e; exact nI_pos (by omega) hx
    · rw [if_pos hx, out]
  · right
    refine ⟨fun p hp e => ?_, ?_⟩
    · subst e; rw [nI_leI (by omega) (by omega)] at hx; omega
    · have h0 : ¬ x < 0 := by
        intro hc
        have h1 := Int32.lt_iff_toInt_lt.mp hc
        have h2 := Int32.le_iff_toInt_le.mp hx
        rw [nI_toInt (by omega)] at h2
        have : (0 : Int32).toInt = 0 := rfl
        omega
      rw [if_neg h0, gr_0_1, q_bs, gi_st hs (by decide), q_bs, h4, if_neg (by intro hc; have h1 := Int32.lt_iff_toInt_lt.mp hc; have h2 := Int32.le_iff_toInt_le.mp hx; omega), out]
  · left
    refine ⟨p, hp, rfl, ?_⟩
    rw [if_neg (nI_pos (by omega)), gr_0_1, q_bs, gi_st hs (by decide), q_bs, h4, if_pos (nI_lt hp (by omega))]
theorem nd_point (h : CI G S) (x : Int32) : (∃ p, p < qF G.1.1 ∧ x = nI p ∧ fX6_needPoint 0 x (qH A S) = some (.inl none, qH A S)) ∨ ((∀ p, p < qF G.1.1 → x ≠ nI p) ∧ refd A S G 0 0 (fX6_needPoint 0 x (qH A S))) := by
  have hz : S.1 1 2 = nI (qF G.1.1) := h.1.2.2.2.2.2.2.1
  have hq := qz h.2.1.1
  have out : fX6_needPoint_15 0 (qH A S) = some (.inr 0, qH (qJ A) (ua S 118 0 (G.2.2.2.1 0 + 1))) := by
    unfold fX6_needPoint_15
    rw [gr_0_7, q_bs, show (0 : Int32) = nI 0 from rfl, q_ai ql_118 (by decide), q_bs, h.2.2.2.2.1 0 (by decide), q_si ql_118 (by decide), q_bs, q_junk]
    rfl
  unfold fX6_needPoint refd
  rcases pk_ix x (show qF G.1.1 < 2 ^ 31 by omega) with hx | hx | ⟨p, hp, rfl⟩
  · right
    refine ⟨fun p hp e => ?_, ?_⟩
    · subst e; exact nI_pos (by omega) hx
    · rw [if_pos hx, out]
  · right
    refine ⟨fun p hp e => ?_, ?_⟩
    · subst e; rw [nI_leI (by omega) (by omega)] at hx; omega
    · have h0 : ¬ x < 0 := by
        intro hc
        have h1 := Int32.lt_iff_toInt_lt.mp hc
        have h2 := Int32.le_iff_toInt_le.mp hx
        rw [nI_toInt (by omega)] at h2
        have : (0 : Int32).toInt = 0 := rfl
        omega
      rw [if_neg h0, gr_0_0, q_bs, gi_1_2, q_bs, hz, if_neg (by intro hc; have h1 := Int32.lt_iff_toInt_lt.mp hc; have h2 := Int32.le_iff_toInt_le.mp hx; omega), out]
  · left
    refine ⟨p, hp, rfl, ?_⟩
    rw [if_neg (nI_pos (by omega)), gr_0_0, q_bs, gi_1_2, q_bs, hz, if_pos (nI_lt hp (by omega))]
theorem nd_number (h : CI G S) (x : Int32) {lo hi : Nat} (hhi : hi < 2 ^ 31) (hlo : lo ≤ hi) : (∃ n, lo ≤ n ∧ n ≤ hi ∧ x = nI n ∧ fX6_needNumber 0 x (nI lo) (nI hi) (qH A S) = some (.inl none, qH A S)) ∨ ((∀ n, lo ≤ n → n ≤ hi → x ≠ nI n) ∧ refd A S G 1 1 (fX6_needNumber 0 x (nI lo) (nI hi) (qH A S))) := by
  have out : fX6_needNumber_10 0 (qH A S) = some (.inr 1, qH (qJ A) (ua S 118 1 (G.2.2.2.1 1 + 1))) := by
    unfold fX6_needNumber_10
    rw [gr_0_7, q_bs, show (1 : Int32) = nI 1 from rfl, q_ai ql_118 (by decide), q_bs, h.2.2.2.2.1 1 (by decide), q_si ql_118 (by decide), q_bs, q_junk]
    rfl
  unfold fX6_needNumber refd
  by_cases c1 : x < nI lo
  · right
    refine ⟨fun n h1 h2 e => ?_, by rw [if_pos c1, out]⟩
    subst e; rw [nI_ltI (by omega) (by omega)] at c1; omega
  · rw [if_neg c1]
    by_cases c2 : x ≤ nI hi
    · left
      have h0 : ¬ x < 0 := by
        intro hc
        apply c1
        rw [Int32.lt_iff_toInt_lt] at hc ⊢
        rw [nI_toInt (by omega)]
        have : (0 : Int32).toInt = 0 := rfl
        omega
      obtain ⟨n, n1, rfl⟩ := nI_of h0
      rw [nI_ltI n1 (by omega)] at c1
      rw [nI_leI n1 hhi] at c2
      exact ⟨n, by omega, c2, rfl, by rw [if_pos (nI_le c2 hhi)]⟩
    · right
      refine ⟨fun n h1 h2 e => ?_, by rw [if_neg c2, out]⟩
      subst e; rw [nI_leI (by omega) hhi] at c2; omega
theorem nd_room (h : CI G S) : (G.1.2.1 < 6 ∧ fX6_needRoom 0 (qH A S) = some (.inl none, qH A S)) ∨ (G.1.2.1 = 6 ∧ refd A S G 2 2 (fX6_needRoom 0 (qH A S))) := by
  have h4 := h.2.1.2.2.2.1
  have h5 := h.2.1.2.2.2.2.1
  have hs : isSt 7 = true := by decide
  unfold fX6_needRoom refd
  rw [gr_0_1, q_bs, gi_st hs (by decide), q_bs, h4]
  by_cases c : G.1.2.1 < 6
  · left; exact ⟨c, by rw [if_pos (by rw [qlit, nI_ltI (by omega) (by decide)]; exact c)]⟩
  · right
    refine ⟨by omega, ?_⟩
    rw [if_neg (by rw [qlit, nI_ltI (by omega) (by decide)]; exact c), gr_0_7, q_bs, show (2 : Int32) = nI 2 from rfl, q_ai ql_118 (by decide), q_bs, h.2.2.2.2.1 2 (by decide), q_si ql_118 (by decide), q_bs, q_junk]
    rfl
theorem nd_perm (h : CI G S) {p : Nat} (hp : p < G.1.2.1) : (pmB (qF G.1.1) (G.1.2.2 p) = true ∧ fX6_needPermuting 0 (nI p) (qH A S) = some (.inl none, qH A S)) ∨ (¬ pmB (qF G.1.1) (G.1.2.2 p) = true ∧ refd A S G 2 2 (fX6_needPermuting 0 (nI p) (qH A S))) := by
  have hz : S.1 1 2 = nI (qF G.1.1) := h.1.2.2.2.2.2.2.1
  obtain ⟨h1, h2, h3, h4, h5, h6⟩ := h.2.1
  have hs : isSt 7 = true := by decide
  unfold fX6_needPermuting refd
  rw [gr_0_6, q_bs, gr_0_1, q_bs, gr_st hs, q_bs, ar_mx hs (by omega), q_bs, ob_113, q_cv, st_perm h1 hz (ql_st hs (by omega)) (h6 p hp), q_cal, q_vi]
  by_cases c : pmB (qF G.1.1) (G.1.2.2 p) = true
  · left; exact ⟨c, by rw [if_neg (by rw [q_pm0]; exact fun h => h c)]⟩
  · right
    refine ⟨c, ?_⟩
    rw [if_pos (by rw [q_pm0]; exact c), gr_0_7, q_bs, show (2 : Int32) = nI 2 from rfl, q_ai ql_118 (by decide), q_bs, h.2.2.2.2.1 2 (by decide), q_si ql_118 (by decide), q_bs, q_junk]
    rfl
end QZ
