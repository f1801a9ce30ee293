/-! the reference as a whole: its state, its refusals -/
def mrR (S : SS) (r : Nat) (σ : PS) : Prop := σ.1 < nF ∧ S.2.1 r 0 = nI (pF σ.1) ∧ S.2.1 r 1 = nI (mF σ.1) ∧ S.2.1 r 2 = nI σ.2.1 ∧ σ.2.1 ≤ 6 ∧ ∀ i, i < σ.2.1 → ∀ x, x < qF σ.1 → S.2.1 r (3 + 64 * i + x) = nI (σ.2.2 i x) ∧ σ.2.2 i x < qF σ.1
def MI (G : GS) (S : SS) : Prop := laidM S ∧ mrR S 122 G.1 ∧ (G.2.1.1 ≤ 8 ∧ S.1 119 12 = nI G.2.1.1 ∧ ∀ k, k < G.2.1.1 → mrR S (124 + 1 + (G.2.1.1 - 1 - k)) (G.2.1.2 k)) ∧ (G.2.2.1.1 ≤ 300 ∧ S.1 119 2 = nI G.2.2.1.1 ∧ ∀ i, i < G.2.2.1.1 → S.2.1 121 i = nI (G.2.2.1.2 i) ∧ G.2.2.1.2 i < 256) ∧ (∀ j, j < 3 → S.2.1 120 j = G.2.2.2.1 j) ∧ S.1 119 5 = G.2.2.2.2
def MB (G : GS) (S : SS) : Prop := MI G S ∧ TabM G.1.1 S ∧ S.1 119 0 = 0
theorem mr_ro {S S' : SS} {r : Nat} {σ : PS} (h : mrR S r σ) (e : S'.2.1 r = S.2.1 r) : mrR S' r σ := by
  obtain ⟨h1, h2, h3, h4, h5, h6⟩ := h
  exact ⟨h1, by rw [e]; exact h2, by rw [e]; exact h3, by rw [e]; exact h4, h5, fun i hi x hx => by rw [e]; exact h6 i hi x hx⟩
theorem tm_gen {f : Nat} {S S' : SS} (hf : f < nF) (h : TabM f S) (hr : ∀ b, 133 < b ∧ b < 265 → S'.2.1 b = S.2.1 b) (hs : ∀ k, 13 ≤ k ∧ k ≤ 16 → S'.1 119 k = S.1 119 k) : TabM f S' := by
  have hq := qz hf
  obtain ⟨h1, h2, h3, h4, h5, h6, h7, h8⟩ := h
  exact ⟨fun a b ha hb => by rw [hr _ (by omega)]; exact h1 a b ha hb, fun a b ha hb => by rw [hr _ (by omega)]; exact h2 a b ha hb, fun a ha => by rw [hr _ (by omega)]; exact h3 a ha, fun a ha h0 => by rw [hr _ (by omega)]; exact h4 a ha h0, by rw [hs _ (by omega)]; exact h5, by rw [hs _ (by omega)]; exact h6, by rw [hs _ (by omega)]; exact h7, by rw [hs _ (by omega)]; exact h8⟩
theorem mi_gen {G : GS} {S S' : SS} {X : Nat → Prop} (h : MI G S) (hX : eqo X S S') (hn : ∀ b, X b → b < 119 ∨ b = 119 ∨ 264 < b) (hs : ∀ k, k = 2 ∨ k = 5 ∨ (12 ≤ k ∧ k ≤ 16) → S'.1 119 k = S.1 119 k) : MI G S' := by
  obtain ⟨h1, h2, ⟨h3, h4, h5⟩, ⟨h6, h7, h8⟩, h9, h10⟩ := h
  have er : ∀ b, 119 < b ∧ b < 265 → S'.2.1 b = S.2.1 b := fun b hb => (hX.1 b (fun hx => by have := hn b hx; omega)).2
  refine ⟨?_, mr_ro h2 (er _ (by omega)), ⟨h3, by rw [hs _ (by omega)]; exact h4, fun k hk => mr_ro (h5 k hk) (er _ (by omega))⟩, ⟨h6, by rw [hs _ (by omega)]; exact h7, fun i hi => by rw [er _ (by omega)]; exact h8 i hi⟩, fun j hj => by rw [er _ (by omega)]; exact h9 j hj, by rw [hs _ (by omega)]; exact h10⟩
  rcases h1 with ⟨g, hg, hT⟩ | ⟨u1, u2⟩
  · exact Or.inl ⟨g, hg, tm_gen hg hT (fun b hb => er b (by omega)) (fun k hk => hs k (by omega))⟩
  · exact Or.inr ⟨by rw [hs _ (by omega)]; exact u1, by rw [hs _ (by omega)]; exact u2⟩
theorem mi_eqo {G : GS} {S S' : SS} {X : Nat → Prop} (h : MI G S) (hX : eqo X S S') (hn : ∀ b, X b → b < 119 ∨ 264 < b) : MI G S' := mi_gen h hX (fun b hb => by have := hn b hb; omega) (fun k _ => by rw [(hX.1 119 (fun hx => by have := hn 119 hx; omega)).1])
theorem mb_eqo {G : GS} {S S' : SS} {X : Nat → Prop} (h : MB G S) (hX : eqo X S S') (hn : ∀ b, X b → b < 119 ∨ 264 < b) : MB G S' := by
  have e := (hX.1 119 (fun hx => by have := hn 119 hx; omega)).1
  exact ⟨mi_eqo h.1 hX hn, tm_gen h.1.2.1.1 h.2.1 (fun b hb => (hX.1 b (fun hx => by have := hn b hx; omega)).2) (fun k _ => by rw [e]), by rw [e]; exact h.2.2⟩
theorem mi_0 {G : GS} {S : SS} {v : Int32} (h : MI G S) : MI G (us S 119 0 v) := mi_gen h (eqo.us (X := fun x => x = 119) rfl) (fun b hb => Or.inr (Or.inl hb)) (fun k hk => by rw [us_at, if_neg (by omega)])
theorem mi_ref {G : GS} {S : SS} {j : Nat} (h : MI G S) : MI (rfU G j) (ua S 120 j (G.2.2.2.1 j + 1)) := by
  obtain ⟨h1, h2, ⟨h3, h4, h5⟩, ⟨h6, h7, h8⟩, h9, h10⟩ := h
  have er : ∀ b, b ≠ 120 → (ua S 120 j (G.2.2.2.1 j + 1)).2.1 b = S.2.1 b := fun b hb => ua_ne hb
  refine ⟨?_, mr_ro h2 (er _ (by omega)), ⟨h3, h4, fun k hk => mr_ro (h5 k hk) (er _ (by omega))⟩, ⟨h6, h7, fun i hi => by rw [er _ (by omega)]; exact h8 i hi⟩, fun i hi => ?_, h10⟩
  · rcases h1 with ⟨g, hg, hT⟩ | ⟨u1, u2⟩
    · exact Or.inl ⟨g, hg, tm_gen hg hT (fun b hb => er b (by omega)) (fun k hk => rfl)⟩
    · exact Or.inr ⟨u1, u2⟩
  · rw [ua_at]
    show _ = upd G.2.2.2.1 j (G.2.2.2.1 j + 1) i
    by_cases e : i = j
    · rw [if_pos e, e, pk_us]
    · rw [if_neg e, pk_un e]; exact h9 i hi
/-- what the reference does is what is told: its refusals by the number T -/
def mOK (T : Nat → Nat) (z0 : Value) (A : AS) (S : SS) (o : RR) (z : OC) : Prop := ∃ S', MI z.2 S' ∧ eqo (fun x => 119 ≤ x ∧ x < 270) S S' ∧ (match z.1 with | .inl e => S'.1 119 0 = nI (T e) ∧ o = some (.inl (some z0), qH A S') | .inr v => S'.1 119 0 = 0 ∧ o = some (.inl (some v), qH A S'))
theorem lg_lt0 (x y : Int64) : lg_cmp x y < 0 ↔ x < y := by
  unfold lg_cmp
  by_cases h1 : x > y
  · rw [if_pos h1]
    refine ⟨fun h => absurd h (by decide), fun h => ?_⟩
    have a := Int64.lt_iff_toInt_lt.mp h
    have b := Int64.lt_iff_toInt_lt.mp h1
    omega
  · rw [if_neg h1]
    by_cases h2 : x = y
    · rw [if_pos h2]
      refine ⟨fun h => absurd h (by decide), fun h => ?_⟩
      subst h2
      have a := Int64.lt_iff_toInt_lt.mp h
      omega
    · rw [if_neg h2]
      refine ⟨fun _ => ?_, fun _ => by decide⟩
      rw [Int64.lt_iff_toInt_lt]
      have a : ¬ y.toInt < x.toInt := fun h => h1 (Int64.lt_iff_toInt_lt.mpr h)
      have b : x.toInt ≠ y.toInt := fun h => h2 (Int64.toInt_inj.mp h)
      omega
theorem lg_gt0 (x y : Int64) : 0 < lg_cmp x y ↔ y < x := by
  unfold lg_cmp
  by_cases h1 : x > y
  · rw [if_pos h1]
    exact ⟨fun _ => h1, fun _ => by decide⟩
  · rw [if_neg h1]
    by_cases h2 : x = y
    · rw [if_pos h2]
      exact ⟨fun h => absurd h (by decide), fun h => absurd h h1⟩
    · rw [if_neg h2]
      exact ⟨fun h => absurd h (by decide), fun h => absurd h h1⟩
theorem m_in {A : AS} {S : SS} (x l u : Int32) : fX7_in x.toInt64 l.toInt64 u.toInt64 (qH A S) = some (.inl (some (.int (if l ≤ x ∧ x ≤ u then 1 else 0))), qH A S) := by
  unfold fX7_in
  rw [z_br0, z_br1]
  by_cases c1 : x < l
  · rw [if_pos ((lg_lt0 _ _).mpr ((fa_wide_lt _ _).mpr c1)), if_neg]
    rintro ⟨h, -⟩
    have a := Int32.lt_iff_toInt_lt.mp c1
    have b := Int32.le_iff_toInt_le.mp h
    omega
  · rw [if_neg (fun h => c1 ((fa_wide_lt _ _).mp ((lg_lt0 _ _).mp h)))]
    have c1' : l ≤ x := by
      rw [Int32.le_iff_toInt_le]
      have : ¬ x.toInt < l.toInt := fun h => c1 (Int32.lt_iff_toInt_lt.mpr h)
      omega
    by_cases c2 : u < x
    · rw [if_pos ((lg_gt0 _ _).mpr ((fa_wide_lt _ _).mpr c2)), if_neg]
      rintro ⟨-, h⟩
      have a := Int32.lt_iff_toInt_lt.mp c2
      have b := Int32.le_iff_toInt_le.mp h
      omega
    · rw [if_neg (fun h => c2 ((fa_wide_lt _ _).mp ((lg_gt0 _ _).mp h))), if_pos]
      refine ⟨c1', ?_⟩
      rw [Int32.le_iff_toInt_le]
      have : ¬ u.toInt < x.toInt := fun h => c2 (Int32.lt_iff_toInt_lt.mpr h)
      omega
theorem ok_int {n : Nat} {x : Int32} (hn : n < 2 ^ 31) : okI n x = true ↔ 0 ≤ x.toInt ∧ x.toInt < n := by
  rw [ok_iff]
  constructor
  · rintro ⟨p, hp, rfl⟩
    rw [nI_toInt (by omega)]
    omega
  · rintro ⟨h1, h2⟩
    have h0 : ¬ x < 0 := fun h => by
      have a := Int32.lt_iff_toInt_lt.mp h
      have : (0 : Int32).toInt = 0 := rfl
      omega
    obtain ⟨p, p1, rfl⟩ := nI_of h0
    rw [nI_toInt p1] at h2
    exact ⟨p, by omega, rfl⟩
theorem m1_int {n : Nat} (hn : n < 2 ^ 31) : (nI n - 1).toInt = (n : Int) - 1 := by
  cases n with
  | zero => rfl
  | succ n =>
    have e : nI (n + 1) - 1 = nI n := by
      have := pk_sub (a := n + 1) (b := 1) (by omega)
      rw [Nat.add_sub_cancel] at this
      exact this
    rw [e, nI_toInt (by omega)]
    omega
section QMP
variable {A : AS} {S : SS} {G : GS} {T : Nat → Nat} {z0 : Value}
theorem m_isP {n : Nat} {x : Int32} (hn : n < 2 ^ 31) : fX7_in x.toInt64 0 ((nI n - 1).toInt64) (qH A S) = some (.inl (some (.int (if okI n x = true then 1 else 0))), qH A S) := by
  have h := m_in (A := A) (S := S) x 0 (nI n - 1)
  have e : (0 ≤ x ∧ x ≤ nI n - 1) ↔ okI n x = true := by
    rw [ok_int hn, Int32.le_iff_toInt_le, Int32.le_iff_toInt_le, m1_int hn]
    have : (0 : Int32).toInt = 0 := rfl
    omega
  rw [show (0 : Int64) = (0 : Int32).toInt64 from rfl, h]
  by_cases c : okI n x = true
  · rw [if_pos c, if_pos (e.mpr c)]
  · rw [if_neg c, if_neg (fun h => c (e.mp h))]
theorem m_isN {lo hi : Nat} {x : Int32} {l h9 : Int64} (hl : l = (nI lo).toInt64) (hh : h9 = (nI hi).toInt64) (hlo : lo ≤ hi) (hn : hi < 2 ^ 31 - 1) : fX7_in x.toInt64 l h9 (qH A S) = some (.inl (some (.int (if okI (hi + 1) x = true ∧ lo ≤ x.toNatClampNeg then 1 else 0))), qH A S) := by
  subst hl; subst hh
  rw [m_in]
  have e : (nI lo ≤ x ∧ x ≤ nI hi) ↔ (okI (hi + 1) x = true ∧ lo ≤ x.toNatClampNeg) := by
    rw [ok_iff, Int32.le_iff_toInt_le, Int32.le_iff_toInt_le, nI_toInt (by omega), nI_toInt (by omega)]
    constructor
    · rintro ⟨h1, h2⟩
      have h0 : ¬ x < 0 := fun h => by
        have a := Int32.lt_iff_toInt_lt.mp h
        have : (0 : Int32).toInt = 0 := rfl
        omega
      obtain ⟨p, p1, rfl⟩ := nI_of h0
      rw [nI_toInt p1] at h1 h2
      rw [nI_clamp p1]
      exact ⟨⟨p, by omega, rfl⟩, by omega⟩
    · rintro ⟨⟨p, p1, rfl⟩, h2⟩
      rw [nI_clamp (by omega)] at h2
      rw [nI_toInt (by omega)]
      omega
  by_cases c : okI (hi + 1) x = true ∧ lo ≤ x.toNatClampNeg
  · rw [if_pos c, if_pos (e.mpr c)]
  · rw [if_neg c, if_neg (fun h => c (e.mp h))]
theorem m_isPoly (h : MB G S) (x : Int32) : fX7_isPoly 119 x (qH A S) = some (.inl (some (.int (if okI G.1.2.1 x = true then 1 else 0))), qH A S) := by
  have h5 := h.1.2.1.2.2.2.2.1
  unfold fX7_isPoly
  rw [gr_119_9, q_bs, show (2 : Int32) = nI 2 from rfl, q_ai ql_122 (by decide), q_bs, h.1.2.1.2.2.2.1, m_isP (by omega), q_cal, q_vi]
  by_cases c : okI G.1.2.1 x = true
  · rw [if_pos c, z_br1]
  · rw [if_neg c, z_br0]
theorem m_isPoint (h : MB G S) (x : Int32) : fX7_isPoint 119 x (qH A S) = some (.inl (some (.int (if okI (qF G.1.1) x = true then 1 else 0))), qH A S) := by
  have hq := qz h.1.2.1.1
  unfold fX7_isPoint
  rw [gi_119_15, q_bs, h.2.1.2.2.2.2.2.2.1, m_isP (by omega), q_cal, q_vi]
  by_cases c : okI (qF G.1.1) x = true
  · rw [if_pos c, z_br1]
  · rw [if_neg c, z_br0]
theorem m_isFull (h : MB G S) : fX7_isFull 119 (qH A S) = some (.inl (some (.int (if G.1.2.1 < 6 then 0 else 1))), qH A S) := by
  have h5 := h.1.2.1.2.2.2.2.1
  unfold fX7_isFull
  rw [gr_119_9, q_bs, show (2 : Int32) = nI 2 from rfl, q_ai ql_122 (by decide), q_bs, h.1.2.1.2.2.2.1]
  by_cases c : G.1.2.1 < 6
  · rw [if_pos c, if_neg (by rw [qlit, nI_eq (by omega) (by decide)]; omega), z_br0]
  · rw [if_neg c, if_pos (by rw [show G.1.2.1 = 6 by omega]; rfl), z_br1]
theorem m_bad0 (h : S.1 119 0 = 0) (w j : Int32) : fX7_bad 119 0 w j (qH A S) = some (.inl (some (.int 0)), qH A S) := by
  unfold fX7_bad fX7_bad_26
  rw [if_pos rfl, gi_119_0, q_bs, h, if_pos rfl, z_br0]
theorem m_bad1 (h : S.1 119 0 = 0) {w j : Nat} (hw : 0 < w ∧ w < 4) (hj : j < 3) : fX7_bad 119 1 (nI w) (nI j) (qH A S) = some (.inl (some (.int 1)), qH A (ua (us S 119 0 (nI w)) 120 j (S.2.1 120 j + 1))) := by
  unfold fX7_bad fX7_bad_26
  have e : (ua (us S 119 0 (nI w)) 120 j (S.2.1 120 j + 1)).1 119 0 = nI w := by rw [ua_s, us_at, if_pos rfl]
  rw [if_neg (by decide), gi_119_0, q_bs, h, if_pos rfl, pi_119_0, q_bs, gr_119_1, q_bs, q_ai ql_120 hj, q_bs, q_si ql_120 hj, q_bs, us_r, gi_119_0, q_bs, e, if_neg (nI_ne0 hw.1 (by omega)), z_br1]
theorem d_ret {o : RR} {v : Value} (h : MB G S) (ho : o = some (.inl (some v), qH A S)) : mOK T z0 A S o (.inr v, G) := ⟨S, h.1, eqo.rf, h.2.2, ho⟩
theorem d_ret2 {S' : SS} {X : Nat → Prop} {o : RR} {v : Value} (h : MB G S) (hX : eqo X S S') (hn : ∀ b, X b → 265 ≤ b ∧ b < 270) (ho : o = some (.inl (some v), qH A S')) : mOK T z0 A S o (.inr v, G) := by
  have hb := mb_eqo h hX (fun b hb => by have := hn b hb; omega)
  exact ⟨S', hb.1, hX.mo (fun b hb => by have := hn b hb; omega), hb.2.2, ho⟩
theorem d_retG {G' : GS} {S' : SS} {o : RR} {v : Value} (h : MB G' S') (hX : eqo (fun x => 119 ≤ x ∧ x < 270) S S') (ho : o = some (.inl (some v), qH A S')) : mOK T z0 A S o (.inr v, G') := ⟨S', h.1, hX, h.2.2, ho⟩
theorem d_tr {S1 : SS} {o : RR} {z : OC} (hX : eqo (fun x => 119 ≤ x ∧ x < 270) S S1) (h : mOK T z0 A S1 o z) : mOK T z0 A S o z := by
  obtain ⟨S', a1, a2, a3⟩ := h
  exact ⟨S', a1, hX.tr a2, a3⟩
theorem d_no (h : MB G S) {w j : Int32} {C : AH → RR} {E : AH → RR} {z : OC} (hC : mOK T z0 A S (C (qH A S)) z) : mOK T z0 A S (zcv (zob (qH A S) 119 7) (fX7_bad 119 0 w j (qH A S)) fun v1 h2 => zvi v1 fun x3 => if x3 = 0 then C h2 else E h2) z := by
  rw [ob_119, q_cv, m_bad0 h.2.2, q_cal, q_vi, if_pos rfl]
  exact hC
theorem d_yes (h : MB G S) {w j e : Nat} {w9 j9 : Int32} (hw9 : w9 = nI w) (hj9 : j9 = nI j) (hw : 0 < w ∧ w < 4) (hj : j < 3) (he : T e = w) {C : AH → RR} : mOK T z0 A S (zcv (zob (qH A S) 119 7) (fX7_bad 119 1 w9 j9 (qH A S)) fun v1 h2 => zvi v1 fun x3 => if x3 = 0 then C h2 else some (.inl (some z0), h2)) (.inl e, rfU G j) := by
  subst hw9; subst hj9
  have e1 : S.2.1 120 j = G.2.2.2.1 j := h.1.2.2.2.2.1 j hj
  have h2 := mi_ref (j := j) (mi_0 (v := nI w) h.1)
  refine ⟨ua (us S 119 0 (nI w)) 120 j (S.2.1 120 j + 1), by rw [e1]; exact h2, (eqo.us (by decide)).tr (eqo.ua (by decide)), ?_, ?_⟩
  · rw [ua_s, us_at, if_pos rfl, he]
  · rw [ob_119, q_cv, m_bad1 h.2.2 hw hj, q_cal, q_vi, if_neg (by decide)]
theorem d_P (h : MB G S) (x : Int32) {E K : AH → RR} {z : Nat → OC} (hE : mOK T z0 A S (E (qH A S)) (.inl 0, rfU G 0)) (hK : ∀ p, p < G.1.2.1 → x = nI p → mOK T z0 A S (K (qH A S)) (z p)) : mOK T z0 A S (zcv (zob (qH A S) 119 7) (fX7_isPoly 119 x (qH A S)) fun v h => zvi v fun x5 => if x5 = 0 then E h else K h) (oP G x z) := by
  have h5 := h.1.2.1.2.2.2.2.1
  unfold oP
  rw [ob_119, q_cv, m_isPoly h, q_cal, q_vi]
  by_cases c : okI G.1.2.1 x = true
  · rw [if_pos c, if_pos c, if_neg (by decide)]
    obtain ⟨p, p1, rfl⟩ := ok_iff.mp c
    rw [nI_clamp (by omega)]
    exact hK p p1 rfl
  · rw [if_neg c, if_neg c, if_pos rfl]
    exact hE
theorem d_Q (h : MB G S) (x : Int32) {E K : AH → RR} {z : Nat → OC} (hE : mOK T z0 A S (E (qH A S)) (.inl 0, rfU G 0)) (hK : ∀ p, p < qF G.1.1 → x = nI p → mOK T z0 A S (K (qH A S)) (z p)) : mOK T z0 A S (zcv (zob (qH A S) 119 7) (fX7_isPoint 119 x (qH A S)) fun v h => zvi v fun x5 => if x5 = 0 then E h else K h) (oQ G x z) := by
  have hq := qz h.1.2.1.1
  unfold oQ
  rw [ob_119, q_cv, m_isPoint h, q_cal, q_vi]
  by_cases c : okI (qF G.1.1) x = true
  · rw [if_pos c, if_pos c, if_neg (by decide)]
    obtain ⟨p, p1, rfl⟩ := ok_iff.mp c
    rw [nI_clamp (by omega)]
    exact hK p p1 rfl
  · rw [if_neg c, if_neg c, if_pos rfl]
    exact hE
theorem d_N (x : Int32) {lo hi : Nat} {l h9 : Int64} (hl : l = (nI lo).toInt64) (hh : h9 = (nI hi).toInt64) (hlo : lo ≤ hi) (hn : hi < 2 ^ 31 - 1) {E K : AH → RR} {z : Nat → OC} (hE : mOK T z0 A S (E (qH A S)) (.inl 1, rfU G 1)) (hK : ∀ n, lo ≤ n → n ≤ hi → x = nI n → mOK T z0 A S (K (qH A S)) (z n)) : mOK T z0 A S (zca (fX7_in x.toInt64 l h9 (qH A S)) fun v h => zvi v fun x5 => if x5 = 0 then E h else K h) (oN G lo hi x z) := by
  unfold oN
  rw [m_isN hl hh hlo hn, q_cal, q_vi]
  by_cases c : okI (hi + 1) x = true ∧ lo ≤ x.toNatClampNeg
  · rw [if_pos c, if_pos c, if_neg (by decide)]
    obtain ⟨p, p1, rfl⟩ := ok_iff.mp c.1
    have c2 := c.2
    rw [nI_clamp (by omega)] at c2 ⊢
    exact hK p c2 (by omega) rfl
  · rw [if_neg c, if_neg c, if_pos rfl]
    exact hE
theorem d_R (h : MB G S) {w : Nat} {w9 j9 : Int32} (hw9 : w9 = nI w) (hj9 : j9 = nI 2) (hw : 0 < w ∧ w < 4) (he : T 2 = w) {C : AH → RR} {z : OC} (hC : G.1.2.1 < 6 → mOK T z0 A S (C (qH A S)) z) : mOK T z0 A S (zcv (zob (qH A S) 119 7) (fX7_isFull 119 (qH A S)) fun v h => zvi v fun x6 => zcv (zob h 119 7) (fX7_bad 119 x6 w9 j9 h) fun v7 h8 => zvi v7 fun x9 => if x9 = 0 then C h8 else some (.inl (some z0), h8)) (oRm G z) := by
  unfold oRm
  rw [ob_119, q_cv, m_isFull h, q_cal, q_vi]
  by_cases c : G.1.2.1 < 6
  · rw [if_pos c, if_pos c]
    exact d_no h (hC c)
  · rw [if_neg c, if_neg c]
    exact d_yes h hw9 hj9 hw (by decide) he
theorem m_begins (h : MI G S) : ∃ S', fX7_begins 119 (qH A S) = some (.inl none, qH A S') ∧ MB G S' ∧ eqo (fun x => 119 ≤ x ∧ x < 270) S S' := by
  obtain ⟨h1, h2, ⟨h3, h4, h5⟩, ⟨h6, h7, h8⟩, h9, h10⟩ := h
  have hl : laidM (us S 119 0 0) := (mi_0 (G := G) ⟨h1, h2, ⟨h3, h4, h5⟩, ⟨h6, h7, h8⟩, h9, h10⟩).1
  obtain ⟨S', a1, a2, a3, a4⟩ := m_lays (A := A) (S := us S 119 0 0) h2.1 ql_122 (by decide) h2.2.1 h2.2.2.1 hl
  have er : ∀ b, 119 < b ∧ b < 134 → S'.2.1 b = S.2.1 b := fun b hb => (a3.1 b (by omega)).2
  have es : ∀ k, k ≠ 0 → ¬ (13 ≤ k ∧ k ≤ 16) → S'.1 119 k = S.1 119 k := fun k hk hk2 => by rw [a4 k hk2, us_at, if_neg hk]
  refine ⟨S', ?_, ⟨⟨Or.inl ⟨G.1.1, h2.1, a2⟩, mr_ro h2 (er _ (by omega)), ⟨h3, by rw [es _ (by decide) (by decide)]; exact h4, fun k hk => mr_ro (h5 k hk) (er _ (by omega))⟩, ⟨h6, by rw [es _ (by decide) (by decide)]; exact h7, fun i hi => by rw [er _ (by omega)]; exact h8 i hi⟩, fun j hj => by rw [er _ (by omega)]; exact h9 j hj, by rw [es _ (by decide) (by decide)]; exact h10⟩, a2, by rw [a4 0 (by decide), us_at, if_pos rfl]⟩, (eqo.us (by decide)).tr (a3.mo (fun b hb => by omega))⟩
  unfold fX7_begins
  rw [pi_119_0, q_bs, gr_119_9, q_bs, ob_119, q_cv, a1, q_cal, q_vn]
theorem d_B (h : MI G S) {K : AH → RR} {z : OC} (hK : ∀ S1, MB G S1 → mOK T z0 A S1 (K (qH A S1)) z) : mOK T z0 A S (zcv (zob (qH A S) 119 7) (fX7_begins 119 (qH A S)) fun v1 h2 => zvn v1 (K h2)) z := by
  obtain ⟨S', a1, a2, a3⟩ := m_begins (A := A) h
  rw [ob_119, q_cv, a1, q_cal, q_vn]
  exact d_tr a3 (hK S' a2)
theorem mb_now (h : MB G S) {p : Nat} (hp : p < G.1.2.1) : nowR G.1.1 S p (G.1.2.2 p) ∧ p < 6 := by
  obtain ⟨h1, h2, h3, h4, h5, h6⟩ := h.1.2.1
  exact ⟨h6 p hp, by omega⟩
end QMP
