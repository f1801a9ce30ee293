/-! the reference's reading: units, products, sums -/
section QTP
variable {A : AS} {S : SS} {b : Nat → Nat} {n f c a : Nat} {W : Nat → Nat → Nat} {Sf : Nat → AH → RR} {d : Nat} {brk : Nat → PR (RW × Nat)}
theorem m_unit (hd : d ≤ 4) (hF : sumF b n f c W Sf d brk) (hU : sumU f Sf) (hA : 271 ≤ A.1) (hC : MC b n f c W S) (h4 : S.1 119 4 = nI a) (ha : a ≤ n) (h6 : S.1 119 6 = 0) (h23 : S.1 119 23 = nI d) : mOKr b n f A S a (fX7_unit Sf 119 (qH A S)) (pU b n f c W brk (sk b n a)) := by
  have hf : f < nF := hC.2.2.2.1.1
  have hb := hC.2.1
  have hn := hC.1
  obtain ⟨A1, S1, r, a1, a2, a3, a4, a5, a6, a7⟩ := m_part hd hF hU hA hC h4 ha h6 h23
  unfold fX7_unit pU
  rw [ob_119, q_cv, a1, q_cal, q_vr, ob_119, q_cv]
  unfold mRes at a7
  cases hres : pUn b n f c W brk (sk b n a) with
  | inl e =>
    rw [hres] at a7
    rw [m_fine0 a7.2.1 a7.1.1 a7.1.2, q_cal, q_vi, if_pos rfl]
    exact ⟨A1, S1, r, rfl, a2, a3, a4, a5, a6, a7⟩
  | inr w =>
    obtain ⟨R, p⟩ := w
    rw [hres] at a7
    obtain ⟨y1, y2, a', y3, y4, y5, y6, y7⟩ := a7
    have y6' : sk b n a' = p := y6
    have hC1 := mc_frm hC a3 hA
    have hA1 : 271 ≤ A1.1 := Nat.le_trans hA a2.1
    have hpa := sk_ge (b := b) (n := n) (p := a')
    have hpn := sk_le (b := b) y4
    have hid : sk b n p = p := by rw [← y6']; exact sk_id
    rw [y6'] at hpa hpn
    have hh := m_here (A := A1) (mt_of hC1) y3 y4
    rw [y6'] at hh
    rw [m_fine1 y1, q_cal, q_vi, if_neg (by decide), ob_119, q_cv, hh, q_cal, q_vi]
    let S2 := us S1 119 4 (nI p)
    have f2 : frm A.1 S S2 := a3.tr (frm.us (by decide)) (Nat.le_refl _)
    have h42 : S2.1 119 4 = nI p := by show (us _ _ _ _).1 119 4 = _; rw [us_at, if_pos rfl]
    have sc2 : ∀ k, k ≠ 4 → S2.1 119 k = S1.1 119 k := fun k hk => by show (us _ _ _ _).1 119 k = _; rw [us_at, if_neg hk]
    show mOKr b n f A S a _ (pPw b n f (R, p))
    unfold pPw
    show mOKr b n f A S a _ (if kd b n p = 94 then _ else _)
    by_cases k94 : kd b n p = 94
    · have hlt := kd_lt (show kd b n p ≠ 0 by omega)
      have hen := en_g (c := 94) (by decide) k94
      rw [if_pos k94, if_pos (show cb b n p = (94 : Int32) from (cb_eq (c := 94) hb (by decide)).mpr ((kd_g (by decide)).mp k94)), gi_119_4, q_bs]
      rw [show (us S1 119 4 (nI p)).1 119 4 = nI p from h42, nI_1, pi_119_4, q_bs, usus, ob_119, q_cv]
      let S3 := us S1 119 4 (nI (p + 1))
      have f3 : frm A.1 S S3 := a3.tr (frm.us (by decide)) (Nat.le_refl _)
      have hC3 := mc_frm hC f3 hA
      have h43 : S3.1 119 4 = nI (p + 1) := by show (us _ _ _ _).1 119 4 = _; rw [us_at, if_pos rfl]
      have h63 : S3.1 119 6 = 0 := by show (us _ _ _ _).1 119 6 = _; rw [us_at, if_neg (by decide)]; exact y1
      have h233 : S3.1 119 23 = S.1 119 23 := by show (us _ _ _ _).1 119 23 = _; rw [us_at, if_neg (by decide)]; exact a4
      have hm := m_number (A := A1) (lo := 0) (lim := 10000) (h9 := 9999) (mt_of hC3) h43 (by omega) h63 rfl (by decide) (by decide) (by decide)
      rw [show sk b n (p + 1) = nx b n p from by unfold nx; rw [hen]] at hm
      rw [show fX7_number 119 0 9999 (qH A1 (us S1 119 4 (nI (p + 1)))) = _ from hm]
      have hgx : p < nx b n p := nx_gt
      have hxn : nx b n p ≤ n := nx_le hlt
      -- a fault in the number
      have bad : ∀ k pl S4, 0 < k → k < 5 → frm A.1 S S4 → S4.1 119 23 = S.1 119 23 → S4.1 119 6 = nI k → S4.1 119 7 = nI pl → rowR f S4 r R → mOKr b n f A S a (fX7_unit_44 Sf FU 119 r 0 0 (qH A1 S4)) (.inl (k, pl)) := by
        intro k pl S4 q1 q2 q3 q4 q5 q6 q9
        have h44 := m_44 (Sf := Sf) (A := A1) (v := 0) hf (mc_frm hC q3 hA).2.2.1 a6 (by decide) q9
        refine ⟨A1, _, r, h44, a2, q3.tr (frm.uA a5) (Nat.le_refl _), q4, a5, a6, ⟨q1, q2⟩, q5, q6, ⟨_, rowR.fill (fun x hx => pw_lt hf (q9 x hx).2 0)⟩, by omega⟩
      have hr3 : rowR f S3 r R := y2
      unfold seeN
      by_cases kx : kd b n (nx b n p) = 1
      · rw [if_pos kx, if_pos kx]
        have hltx := (kd_1.mp kx).1
        have hgx2 : nx b n p < en b n (nx b n p) := en_gt
        obtain ⟨v1, v2, v3, v4⟩ := nu_v (S := S3) (p := nx b n p) (e := en b n (nx b n p))
        have f4 : frm A.1 S (nuS S3 (nx b n p) (en b n (nx b n p))) := f3.tr nu_frm (Nat.le_refl _)
        have hr4 : rowR f (nuS S3 (nx b n p) (en b n (nx b n p))) r R := hr3
        by_cases c2 : nv b n (nx b n p) < 10000
        · rw [if_pos ⟨Nat.zero_le _, c2⟩, if_pos c2, q_cal, q_vi, m_44 hf (mc_frm hC f4 hA).2.2.1 a6 c2 hr4]
          refine ⟨A1, _, r, rfl, a2, f4.tr (frm.uA a5) (Nat.le_refl _), (v3 23 (by decide) (by decide)).trans h233, a5, a6, (v3 6 (by decide) (by decide)).trans h63, rowR.fill (fun x hx => pw_lt hf (y2 x hx).2 _), en b n (nx b n p), v1, en_le hltx, by omega, rfl, by omega⟩
        · obtain ⟨w1, w2, w3, w4⟩ := wr_v (S := nuS S3 (nx b n p) (en b n (nx b n p))) (k := 2) (p := nx b n p)
          rw [if_neg (fun h => c2 h.2), if_neg c2, q_cal, q_vi]
          exact bad 2 _ _ (by decide) (by decide) (f4.tr (wr_frm (by decide)) (Nat.le_refl _)) ((w3 23 (by decide) (by decide)).trans ((v3 23 (by decide) (by decide)).trans h233)) w1 w2 hr4
      · obtain ⟨w1, w2, w3, w4⟩ := wr_v (S := us S3 119 4 (nI (nx b n p))) (k := 1) (p := nx b n p)
        rw [if_neg kx, if_neg kx, q_cal, q_vi]
        exact bad 1 _ _ (by decide) (by decide) ((f3.tr (frm.us (by decide)) (Nat.le_refl _)).tr (wr_frm (by decide)) (Nat.le_refl _)) ((w3 23 (by decide) (by decide)).trans (by rw [us_at, if_neg (by decide)]; exact h233)) w1 w2 hr3
    · rw [if_neg k94, if_neg (show ¬ cb b n p = (94 : Int32) from fun h => k94 ((kd_g (by decide)).mpr ((cb_eq (c := 94) hb (by decide)).mp h)))]
      exact ⟨A1, S2, r, rfl, a2, f2, (sc2 23 (by decide)).trans a4, a5, a6, (sc2 6 (by decide)).trans y1, y2, p, h42, hpn, by omega, hid, by omega⟩
theorem m_38 (hf : f < nF) (hT : TabM f S) {r r2 : Nat} {R R2 : Nat → Nat} (hr : isR A r) (hr2 : isR A r2) (hne : r2 ≠ r) (hR : rowR f S r R) (hR2 : rowR f S r2 R2) (K5 : Nat → Nat → AH → RR) : fX7_product_38 Sf K5 FU 119 r r2 0 (qH A S) = K5 119 r (qH A (uA S r (fa_fill (fun s => nI (mu f (R s) (R2 s))) (S.2.1 r) (qF f)))) := by
  have hq := qz hf
  have hz : S.1 119 15 = nI (qF f) := hT.2.2.2.2.2.2.1
  have hl := loopF0 (fun k i s => fX7_product_38 Sf K5 k 119 r r2 (nI i) (qH A s)) (qF f) (fun i => uA S r (fa_fill (fun s => nI (mu f (R s) (R2 s))) (S.2.1 r) i)) (K5 119 r (qH A (uA S r (fa_fill (fun s => nI (mu f (R s) (R2 s))) (S.2.1 r) (qF f))))) (by omega) ?_ ?_
  · rw [fa_fill_0, uA_self] at hl
    exact hl
  · intro k i hi
    have hri : (uA S r (fa_fill (fun s => nI (mu f (R s) (R2 s))) (S.2.1 r) i)).2.1 r i = nI (R i) := by rw [uA_at, fa_fill_out (Nat.le_refl _)]; exact (hR i hi).1
    obtain ⟨p1, p2⟩ := tm_p (A := A) hf (tm_row (g := fa_fill (fun s => nI (mu f (R s) (R2 s))) (S.2.1 r) i) hf hT hr.1) (hR i hi).2 (hR2 i hi).2
    show fX7_product_38 Sf K5 (k + 1) 119 r r2 (nI i) (qH A _) = _
    rw [fX7_product_38, gi_119_15, q_bs, uA_s, hz, if_neg (by rw [nI_leI (by omega) (by omega)]; omega), gr_119_18, q_bs, q_ai hr.l (by omega), q_bs, hri, p1, q_bs, q_ai hr2.l (by omega), q_bs, uA_ne hne, (hR2 i hi).1, p2, q_bs, q_si hr.l (by omega), q_bs, uaA, nI_1]
    rw [show upd (fa_fill (fun s => nI (mu f (R s) (R2 s))) (S.2.1 r) i) i (nI (mu f (R i) (R2 i))) = fa_fill (fun s => nI (mu f (R s) (R2 s))) (S.2.1 r) (i + 1) from fa_fill_succ (fun s => nI (mu f (R s) (R2 s))) (S.2.1 r) i]
  · intro k
    show fX7_product_38 Sf K5 (k + 1) 119 r r2 (nI (qF f)) (qH A _) = _
    rw [fX7_product_38, gi_119_15, q_bs, uA_s, hz, if_pos (by rw [nI_leI (by omega) (by omega)]; exact Nat.le_refl _)]
def gsF (f : Nat) (more : Bool) (x y : Nat) : Nat := if more = true then ad f x y else ad f x (ng f y)
theorem gs_lt {more : Bool} {x y : Nat} (hf : f < nF) (hx : x < qF f) (hy : y < qF f) : gsF f more x y < qF f := by
  unfold gsF
  split
  · exact ad_lt hf hx hy
  · exact ad_lt hf hx (ng_lt hf hy)
theorem m_63 (hf : f < nF) (hT : TabM f S) {r r2 : Nat} {R R2 : Nat → Nat} (hr : isR A r) (hr2 : isR A r2) (hne : r2 ≠ r) (hR : rowR f S r R) (hR2 : rowR f S r2 R2) (more : Bool) (K5 : Nat → Nat → AH → RR) : fX7_sum_63 Sf K5 FU 119 r (if more = true then 1 else 0) r2 0 (qH A S) = K5 119 r (qH A (uA S r (fa_fill (fun s => nI (gsF f more (R s) (R2 s))) (S.2.1 r) (qF f)))) := by
  have hq := qz hf
  have hz : S.1 119 15 = nI (qF f) := hT.2.2.2.2.2.2.1
  have hl := loopF0 (fun k i s => fX7_sum_63 Sf K5 k 119 r (if more = true then 1 else 0) r2 (nI i) (qH A s)) (qF f) (fun i => uA S r (fa_fill (fun s => nI (gsF f more (R s) (R2 s))) (S.2.1 r) i)) (K5 119 r (qH A (uA S r (fa_fill (fun s => nI (gsF f more (R s) (R2 s))) (S.2.1 r) (qF f))))) (by omega) ?_ ?_
  · rw [fa_fill_0, uA_self] at hl
    exact hl
  · intro k i hi
    have hri : (uA S r (fa_fill (fun s => nI (gsF f more (R s) (R2 s))) (S.2.1 r) i)).2.1 r i = nI (R i) := by rw [uA_at, fa_fill_out (Nat.le_refl _)]; exact (hR i hi).1
    have hT' : TabM f (uA S r (fa_fill (fun s => nI (gsF f more (R s) (R2 s))) (S.2.1 r) i)) := tm_row hf hT hr.1
    obtain ⟨p1, p2⟩ := tm_s (A := A) hf hT' (hR i hi).2 (hR2 i hi).2
    have hsucc : upd (fa_fill (fun s => nI (gsF f more (R s) (R2 s))) (S.2.1 r) i) i (nI (gsF f more (R i) (R2 i))) = fa_fill (fun s => nI (gsF f more (R s) (R2 s))) (S.2.1 r) (i + 1) := fa_fill_succ (fun s => nI (gsF f more (R s) (R2 s))) (S.2.1 r) i
    show fX7_sum_63 Sf K5 (k + 1) 119 r (if more = true then 1 else 0) r2 (nI i) (qH A _) = _
    rw [fX7_sum_63, gi_119_15, q_bs, uA_s, hz, if_neg (by rw [nI_leI (by omega) (by omega)]; omega)]
    unfold fX7_sum_108
    cases more with
    | true =>
      rw [if_neg (by decide), gr_119_17, q_bs, q_ai hr.l (by omega), q_bs, hri, p1, q_bs, q_ai hr2.l (by omega), q_bs, uA_ne hne, (hR2 i hi).1, p2, q_bs, q_si hr.l (by omega), q_bs, uaA, nI_1]
      rw [← hsucc]
      rfl
    | false =>
      rw [if_pos (by decide), q_ai hr.l (by omega), q_bs, hri, q_ai hr2.l (by omega), q_bs, uA_ne hne, (hR2 i hi).1, ob_119, q_cv, m_apart hf hT' (hR i hi).2 (hR2 i hi).2, q_cal, q_vi, q_si hr.l (by omega), q_bs, uaA, nI_1]
      rw [← hsucc]
      rfl
  · intro k
    show fX7_sum_63 Sf K5 (k + 1) 119 r (if more = true then 1 else 0) r2 (nI (qF f)) (qH A _) = _
    rw [fX7_sum_63, gi_119_15, q_bs, uA_s, hz, if_pos (by rw [nI_leI (by omega) (by omega)]; exact Nat.le_refl _)]
/-- what a loop behind a row comes to -/
def mLp (b : Nat → Nat) (n f : Nat) (N : Nat) (A : AS) (S : SS) (a r : Nat) (o : RR) (res : PR (RW × Nat)) : Prop := ∃ A' S', o = some (.inl (some (.ref r)), qH A' S') ∧ grw A A' ∧ frm N S S' ∧ S'.1 119 23 = S.1 119 23 ∧ (match res with
  | .inl e => (0 < e.1 ∧ e.1 < 5) ∧ S'.1 119 6 = nI e.1 ∧ S'.1 119 7 = nI e.2 ∧ (∃ R, rowR f S' r R) ∧ 2 * A'.1 ≤ 2 * A.1 + (n - a) + 3
  | .inr w => S'.1 119 6 = 0 ∧ rowR f S' r w.1 ∧ ∃ a', S'.1 119 4 = nI a' ∧ a' ≤ n ∧ a ≤ a' ∧ sk b n a' = w.2 ∧ 2 * A'.1 ≤ 2 * A.1 + (a' - a))
/-- one step of a loop, then the rest -/
theorem lp_step {N : Nat} {A A1 : AS} {S S2 : SS} {a a1 a2 r : Nat} {o : RR} {res : PR (RW × Nat)} (hg : grw A A1) (hX : frm N S S2) (h23 : S2.1 119 23 = S.1 119 23) (ha1 : a + 1 ≤ a1) (ha2 : a1 < a2) (ha2n : a2 ≤ n) (hc : 2 * A1.1 ≤ 2 * A.1 + (a2 - a1) + 1) (h : mLp b n f N A1 S2 a2 r o res) : mLp b n f N A S a r o res := by
  obtain ⟨A', S', x1, x2, x3, x4, x5⟩ := h
  refine ⟨A', S', x1, hg.tr x2, hX.tr x3 (Nat.le_refl _), x4.trans h23, ?_⟩
  cases res with
  | inl e =>
    obtain ⟨y1, y2, y3, y4, y5⟩ := x5
    exact ⟨y1, y2, y3, y4, by omega⟩
  | inr w =>
    obtain ⟨y1, y2, a', y3, y4, y5, y6, y7⟩ := x5
    exact ⟨y1, y2, a', y3, y4, by omega, y6, by omega⟩
theorem m_prodL (hd : d ≤ 4) (hF : sumF b n f c W Sf d brk) (hU : sumU f Sf) {N r : Nat} (hN : 271 ≤ N) (hNr : N ≤ r) : ∀ k K A S a R, 300 ≤ k + a → k < K → N ≤ A.1 → isR A r → MC b n f c W S → S.1 119 4 = nI a → a ≤ n → S.1 119 6 = 0 → S.1 119 23 = nI d → rowR f S r R → mLp b n f N A S a r (fX7_product_5 Sf K 119 r (qH A S)) (pPL b n f c W brk k (R, sk b n a)) := by
  intro k
  induction k with
  | zero =>
    intro K A S a R h1 h2 hNA hr hC h4 ha h6 h23 hR
    obtain ⟨K, rfl⟩ : ∃ k', K = k' + 1 := ⟨K - 1, by omega⟩
    have hn := hC.1
    have hs : sk b n a = a := sk_n (by omega)
    have hh := m_here (A := A) (mt_of hC) h4 ha
    have hk : ¬ cb b n (sk b n a) = (42 : Int32) := fun h => by
      have := (cb_eq (c := 42) hC.2.1 (by decide)).mp h
      omega
    rw [fX7_product_5, ob_119, q_cv, m_fine1 h6, q_cal, q_vi, if_neg (by decide), ob_119, q_cv, hh, q_cal, q_vi, if_neg hk]
    exact ⟨A, _, rfl, grw.rf, frm.us (by decide), by rw [us_at, if_neg (by decide)], by rw [us_at, if_neg (by decide)]; exact h6, hR, sk b n a, by rw [us_at, if_pos rfl], sk_le ha, sk_ge, sk_id, by omega⟩
  | succ k ih =>
    intro K A S a R h1 h2 hNA hr hC h4 ha h6 h23 hR
    obtain ⟨K, rfl⟩ : ∃ k', K = k' + 1 := ⟨K - 1, by omega⟩
    have hf : f < nF := hC.2.2.2.1.1
    have hb := hC.2.1
    have hA : 271 ≤ A.1 := by omega
    have hpa := sk_ge (b := b) (n := n) (p := a)
    have hpn := sk_le (b := b) ha
    have hh := m_here (A := A) (mt_of hC) h4 ha
    rw [fX7_product_5, ob_119, q_cv, m_fine1 h6, q_cal, q_vi, if_neg (by decide), ob_119, q_cv, hh, q_cal, q_vi, pPL]
    show mLp b n f N A S a r _ (if kd b n (sk b n a) = 42 then _ else _)
    by_cases k42 : kd b n (sk b n a) = 42
    · have hlt := kd_lt (show kd b n (sk b n a) ≠ 0 by omega)
      have hen := en_g (c := 42) (by decide) k42
      rw [if_pos k42, if_pos (show cb b n (sk b n a) = (42 : Int32) from (cb_eq (c := 42) hb (by decide)).mpr ((kd_g (by decide)).mp k42)), gi_119_4, q_bs, us_at, if_pos rfl, nI_1, pi_119_4, q_bs, usus, ob_119, q_cv]
      let S1 := us S 119 4 (nI (sk b n a + 1))
      have f1 : frm N S S1 := frm.us (by decide)
      have hC1 := mc_frm hC f1 hN
      have h41 : S1.1 119 4 = nI (sk b n a + 1) := by show (us _ _ _ _).1 119 4 = _; rw [us_at, if_pos rfl]
      have sc1 : ∀ k, k ≠ 4 → S1.1 119 k = S.1 119 k := fun k hk => by show (us _ _ _ _).1 119 k = _; rw [us_at, if_neg hk]
      have hu := m_unit (A := A) (S := S1) hd hF hU hA hC1 h41 (by omega) ((sc1 6 (by decide)).trans h6) ((sc1 23 (by decide)).trans h23)
      rw [show sk b n (sk b n a + 1) = nx b n (sk b n a) from by unfold nx; rw [hen]] at hu
      obtain ⟨A1, S2, r2, b1, b2, b3, b4, b5, b6, b7⟩ := hu
      rw [show fX7_unit Sf 119 (qH A (us S 119 4 (nI (sk b n a + 1)))) = _ from b1, q_cal, q_vr]
      have f2 : frm N S S2 := f1.tr b3 hNA
      have hC2 := mc_frm hC f2 hN
      have hrne : r2 ≠ r := fun e => Nat.lt_irrefl r (Nat.lt_of_lt_of_le hr.2.1 (e ▸ b5))
      have hr1 : isR A1 r := hr.g b2
      have hRr : rowR f S2 r R := (show rowR f S1 r R from hR).eqo b3.1 (fun (h : r = 119 ∨ A.1 ≤ r) => by have := hr.2.1; have := hr.1; omega)
      have h232 : S2.1 119 23 = S.1 119 23 := b4.trans (sc1 23 (by decide))
      show mLp b n f N A S a r _ (bnd (pU b n f c W brk (nx b n (sk b n a))) (fun r' => pPL b n f c W brk k (fun s => mu f (R s) (r'.1 s), r'.2)))
      unfold mRes at b7
      cases hres : pU b n f c W brk (nx b n (sk b n a)) with
      | inl e =>
        rw [hres] at b7
        obtain ⟨y1, y2, y3, ⟨R2, y4⟩, y5⟩ := b7
        rw [m_38 hf hC2.2.2.1 hr1 b6 hrne hRr y4]
        obtain ⟨K, rfl⟩ : ∃ k', K = k' + 1 := ⟨K - 1, by omega⟩
        have y2' : (uA S2 r (fa_fill (fun s => nI (mu f (R s) (R2 s))) (S2.2.1 r) (qF f))).1 119 6 = nI e.1 := y2
        show mLp b n f N A S a r (fX7_product_5 Sf (K + 1) 119 r (qH A1 _)) _
        rw [fX7_product_5, ob_119, q_cv, m_fine0 y2' y1.1 y1.2, q_cal, q_vi, if_pos rfl]
        exact ⟨A1, _, rfl, b2, f2.tr (frm.uA hNr) (Nat.le_refl _), h232, y1, y2, y3, ⟨_, rowR.fill (fun x hx => mu_lt hf (hRr x hx).2 (y4 x hx).2)⟩, by omega⟩
      | inr w =>
        obtain ⟨R2, p2⟩ := w
        rw [hres] at b7
        obtain ⟨y1, y2, a', y3, y4, y5, y6, y7⟩ := b7
        have y6' : sk b n a' = p2 := y6
        rw [m_38 hf hC2.2.2.1 hr1 b6 hrne hRr y2]
        have f3 : frm N S (uA S2 r (fa_fill (fun s => nI (mu f (R s) (R2 s))) (S2.2.1 r) (qF f))) := f2.tr (frm.uA hNr) (Nat.le_refl _)
        have hI := ih K A1 (uA S2 r (fa_fill (fun s => nI (mu f (R s) (R2 s))) (S2.2.1 r) (qF f))) a' (fun s => mu f (R s) (R2 s)) (by omega) (by omega) (by have := b2.1; omega) hr1 (mc_frm hC f3 hN) y3 y4 y1 (h232.trans h23) (rowR.fill (fun x hx => mu_lt hf (hRr x hx).2 (y2 x hx).2))
        rw [y6'] at hI
        exact lp_step b2 f3 h232 (show a + 1 ≤ sk b n a + 1 by omega) y5 y4 y7 hI
    · rw [if_neg k42, if_neg (show ¬ cb b n (sk b n a) = (42 : Int32) from fun h => k42 ((kd_g (by decide)).mpr ((cb_eq (c := 42) hb (by decide)).mp h)))]
      exact ⟨A, _, rfl, grw.rf, frm.us (by decide), by rw [us_at, if_neg (by decide)], by rw [us_at, if_neg (by decide)]; exact h6, hR, sk b n a, by rw [us_at, if_pos rfl], hpn, hpa, sk_id, by omega⟩
/-- a row, then a loop -/
theorem lp_join {A A1 : AS} {S S1 : SS} {a a1 r : Nat} {o : RR} {res : PR (RW × Nat)} (hg : grw A A1) (hX : frm A.1 S S1) (h23 : S1.1 119 23 = S.1 119 23) (hr : A.1 ≤ r) (hi : isR A1 r) (ha : a < a1) (ha1 : a1 ≤ n) (hc : 2 * A1.1 ≤ 2 * A.1 + (a1 - a) + 1) (h : mLp b n f A.1 A1 S1 a1 r o res) : mOKr b n f A S a o res := by
  obtain ⟨A', S', x1, x2, x3, x4, x5⟩ := h
  refine ⟨A', S', r, x1, hg.tr x2, hX.tr x3 (Nat.le_refl _), x4.trans h23, hr, hi.g x2, ?_⟩
  unfold mRes
  cases res with
  | inl e =>
    obtain ⟨y1, y2, y3, y4, y5⟩ := x5
    exact ⟨y1, y2, y3, y4, by omega⟩
  | inr w =>
    obtain ⟨y1, y2, a', y3, y4, y5, y6, y7⟩ := x5
    exact ⟨y1, y2, a', y3, y4, by omega, y6, by omega⟩
theorem m_prod (hd : d ≤ 4) (hF : sumF b n f c W Sf d brk) (hU : sumU f Sf) (hA : 271 ≤ A.1) (hC : MC b n f c W S) (h4 : S.1 119 4 = nI a) (ha : a ≤ n) (h6 : S.1 119 6 = 0) (h23 : S.1 119 23 = nI d) : mOKr b n f A S a (fX7_product Sf 119 (qH A S)) (pP b n f c W brk (sk b n a)) := by
  obtain ⟨A1, S1, r, a1, a2, a3, a4, a5, a6, a7⟩ := m_unit hd hF hU hA hC h4 ha h6 h23
  unfold fX7_product pP
  rw [ob_119, q_cv, a1, q_cal, q_vr]
  unfold mRes at a7
  cases hres : pU b n f c W brk (sk b n a) with
  | inl e =>
    rw [hres] at a7
    rw [show FU = 19999 + 1 from rfl, fX7_product_5, ob_119, q_cv, m_fine0 a7.2.1 a7.1.1 a7.1.2, q_cal, q_vi, if_pos rfl]
    exact ⟨A1, S1, r, rfl, a2, a3, a4, a5, a6, a7⟩
  | inr w =>
    obtain ⟨R, p⟩ := w
    rw [hres] at a7
    obtain ⟨y1, y2, a', y3, y4, y5, y6, y7⟩ := a7
    have y6' : sk b n a' = p := y6
    have hl := m_prodL hd hF hU (N := A.1) (r := r) hA a5 300 FU A1 S1 a' R (by omega) (by unfold FU; omega) a2.1 a6 (mc_frm hC a3 hA) y3 y4 y1 (a4.trans h23) y2
    rw [y6'] at hl
    exact lp_join a2 a3 a4 a5 a6 y5 y4 y7 hl
end QTP
