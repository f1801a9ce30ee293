/-! the reference's reading: parts and units -/
theorem ne_m1 {v : Nat} (h : v < 2 ^ 31) : ¬ nI v = -1 := fun e => nI_pos h (by rw [e]; decide)
section QTO
variable {A : AS} {S : SS} {b : Nat → Nat} {n f c a : Nat} {W : Nat → Nat → Nat} {Sf : Nat → AH → RR} {d : Nat}
theorem tm_row {r : Nat} {g : Nat → Int32} (hf : f < nF) (h : TabM f S) (hr : 271 ≤ r) : TabM f (uA S r g) := tm_gen hf h (fun x hx => uA_ne (by omega)) (fun _ _ => rfl)
theorem m_201 (hf : f < nF) (hT : TabM f S) (h6 : S.1 119 6 = 0) {r m v : Nat} (hr : isR A r) (hm : m < 10000) (hv : v < qF f) : fX7_part_201 Sf FU 119 r (nI m) (nI v) 0 (qH A S) = some (.inl (some (.ref r)), qH A (uA S r (fa_fill (fun s => nI (dk f v s m)) (S.2.1 r) (qF f)))) := by
  have hq := qz hf
  have hz : S.1 119 15 = nI (qF f) := hT.2.2.2.2.2.2.1
  have hl := loopF0 (fun k i s => fX7_part_201 Sf k 119 r (nI m) (nI v) (nI i) (qH A s)) (qF f) (fun i => uA S r (fa_fill (fun s => nI (dk f v s m)) (S.2.1 r) i)) (some (.inl (some (.ref r)), qH A (uA S r (fa_fill (fun s => nI (dk f v s m)) (S.2.1 r) (qF f))))) (by omega) ?_ ?_
  · rw [fa_fill_0, uA_self] at hl
    exact hl
  · intro k i hi
    have h6' : (uA S r (fa_fill (fun s => nI (dk f v s m)) (S.2.1 r) i)).1 119 6 = 0 := h6
    show fX7_part_201 Sf (k + 1) 119 r (nI m) (nI v) (nI i) (qH A _) = _
    rw [fX7_part_201, gi_119_15, q_bs, uA_s, hz, if_neg (by rw [nI_leI (by omega) (by omega)]; omega), ob_119, q_cv, m_fine1 h6', q_cal, q_vi, if_neg (by decide), ob_119, q_cv, m_dickson hf (tm_row hf hT hr.1) (by omega) hv hi, q_cal, q_vi, q_si hr.l (by omega), q_bs, uaA, nI_1]
    rw [show upd (fa_fill (fun s => nI (dk f v s m)) (S.2.1 r) i) i (nI (dk f v i m)) = fa_fill (fun s => nI (dk f v s m)) (S.2.1 r) (i + 1) from fa_fill_succ (fun s => nI (dk f v s m)) (S.2.1 r) i]
  · intro k
    show fX7_part_201 Sf (k + 1) 119 r (nI m) (nI v) (nI (qF f)) (qH A _) = _
    rw [fX7_part_201, gi_119_15, q_bs, uA_s, hz, if_pos (by rw [nI_leI (by omega) (by omega)]; exact Nat.le_refl _)]
theorem m_201b (hf : f < nF) (hz : S.1 119 15 = nI (qF f)) {k : Nat} (h6 : S.1 119 6 = nI k) (h0 : 0 < k) (h5 : k < 5) (r : Nat) (x y : Int32) : fX7_part_201 Sf FU 119 r x y 0 (qH A S) = some (.inl (some (.ref r)), qH A S) := by
  have hq := qz hf
  rw [show FU = 19999 + 1 from rfl, fX7_part_201, gi_119_15, q_bs, hz, if_neg (by rw [qlit, nI_leI (by omega) (by decide)]; omega), ob_119, q_cv, m_fine0 h6 h0 h5, q_cal, q_vi, if_pos rfl]
theorem m_123b (hf : f < nF) (hz : S.1 119 15 = nI (qF f)) {k : Nat} (h6 : S.1 119 6 = nI k) (h0 : 0 < k) (h5 : k < 5) (r r2 : Nat) (x : Int32) : fX7_part_123 Sf FU 119 r x r2 0 (qH A S) = some (.inl (some (.ref r)), qH A S) := by
  have hq := qz hf
  rw [show FU = 19999 + 1 from rfl, fX7_part_123, gi_119_15, q_bs, hz, if_neg (by rw [qlit, nI_leI (by omega) (by decide)]; omega), ob_119, q_cv, m_fine0 h6 h0 h5, q_cal, q_vi, if_pos rfl]
theorem m_123 (hC : MC b n f c W S) (h6 : S.1 119 6 = 0) {r r2 j : Nat} {R : Nat → Nat} (hr : isR A r) (hr2 : isR A r2) (hne : r2 ≠ r) (hj : j < c) (hR : rowR f S r2 R) : fX7_part_123 Sf FU 119 r (nI j) r2 0 (qH A S) = some (.inl (some (.ref r)), qH A (uA S r (fa_fill (fun s => nI (W j (R s))) (S.2.1 r) (qF f)))) := by
  obtain ⟨h1, h2, hT, ⟨m1, m2, m3, m4, m5, m6⟩, -, -⟩ := hC
  have hf : f < nF := m1
  have hq := qz hf
  have hz : S.1 119 15 = nI (qF f) := hT.2.2.2.2.2.2.1
  have hc6 : c ≤ 6 := m5
  have hr1 := hr.1
  have hl := loopF0 (fun k i s => fX7_part_123 Sf k 119 r (nI j) r2 (nI i) (qH A s)) (qF f) (fun i => uA S r (fa_fill (fun s => nI (W j (R s))) (S.2.1 r) i)) (some (.inl (some (.ref r)), qH A (uA S r (fa_fill (fun s => nI (W j (R s))) (S.2.1 r) (qF f))))) (by omega) ?_ ?_
  · rw [fa_fill_0, uA_self] at hl
    exact hl
  · intro k i hi
    have h6' : (uA S r (fa_fill (fun s => nI (W j (R s))) (S.2.1 r) i)).1 119 6 = 0 := h6
    have hl2 := (hR i hi).2
    have hv : S.2.1 123 (3 + 64 * j + R i) = nI (W j (R i)) := (m6 j hj (R i) hl2).1
    show fX7_part_123 Sf (k + 1) 119 r (nI j) r2 (nI i) (qH A _) = _
    rw [fX7_part_123, gi_119_15, q_bs, uA_s, hz, if_neg (by rw [nI_leI (by omega) (by omega)]; omega), ob_119, q_cv, m_fine1 h6', q_cal, q_vi, if_neg (by decide), gr_119_10, q_bs, q_ai hr2.l (by omega), q_bs, uA_ne hne, (hR i hi).1, show (3 : Int32) = nI 3 from rfl, show (64 : Int32) = nI 64 from rfl, pk_mul, nI_add, nI_add, q_ai ql_123 (by omega), q_bs, uA_ne (by omega), hv, q_si hr.l (by omega), q_bs, uaA, nI_1]
    rw [show upd (fa_fill (fun s => nI (W j (R s))) (S.2.1 r) i) i (nI (W j (R i))) = fa_fill (fun s => nI (W j (R s))) (S.2.1 r) (i + 1) from fa_fill_succ (fun s => nI (W j (R s))) (S.2.1 r) i]
  · intro k
    show fX7_part_123 Sf (k + 1) 119 r (nI j) r2 (nI (qF f)) (qH A _) = _
    rw [fX7_part_123, gi_119_15, q_bs, uA_s, hz, if_pos (by rw [nI_leI (by omega) (by omega)]; exact Nat.le_refl _)]
theorem m_44 (hf : f < nF) (hT : TabM f S) {r v : Nat} {R : Nat → Nat} (hr : isR A r) (hv : v < 10000) (hR : rowR f S r R) : fX7_unit_44 Sf FU 119 r (nI v) 0 (qH A S) = some (.inl (some (.ref r)), qH A (uA S r (fa_fill (fun s => nI (pw f (R s) v)) (S.2.1 r) (qF f)))) := by
  have hq := qz hf
  have hz : S.1 119 15 = nI (qF f) := hT.2.2.2.2.2.2.1
  have hl := loopF0 (fun k i s => fX7_unit_44 Sf k 119 r (nI v) (nI i) (qH A s)) (qF f) (fun i => uA S r (fa_fill (fun s => nI (pw f (R s) v)) (S.2.1 r) i)) (some (.inl (some (.ref r)), qH A (uA S r (fa_fill (fun s => nI (pw f (R s) v)) (S.2.1 r) (qF f))))) (by omega) ?_ ?_
  · rw [fa_fill_0, uA_self] at hl
    exact hl
  · intro k i hi
    have hri : (uA S r (fa_fill (fun s => nI (pw f (R s) v)) (S.2.1 r) i)).2.1 r i = nI (R i) := by rw [uA_at, fa_fill_out (Nat.le_refl _)]; exact (hR i hi).1
    show fX7_unit_44 Sf (k + 1) 119 r (nI v) (nI i) (qH A _) = _
    rw [fX7_unit_44, gi_119_15, q_bs, uA_s, hz, if_neg (by rw [nI_leI (by omega) (by omega)]; omega), q_ai hr.l (by omega), q_bs, hri, ob_119, q_cv, m_raisedPoint hf (tm_row hf hT hr.1) (by omega) (hR i hi).2, q_cal, q_vi, q_si hr.l (by omega), q_bs, uaA, nI_1]
    rw [show upd (fa_fill (fun s => nI (pw f (R s) v)) (S.2.1 r) i) i (nI (pw f (R i) v)) = fa_fill (fun s => nI (pw f (R s) v)) (S.2.1 r) (i + 1) from fa_fill_succ (fun s => nI (pw f (R s) v)) (S.2.1 r) i]
  · intro k
    show fX7_unit_44 Sf (k + 1) 119 r (nI v) (nI (qF f)) (qH A _) = _
    rw [fX7_unit_44, gi_119_15, q_bs, uA_s, hz, if_pos (by rw [nI_leI (by omega) (by omega)]; exact Nat.le_refl _)]
/-- one new row, well read -/
theorem mk1 (hA : 271 ≤ A.1) {S2 : SS} {g : Nat → Nat} {a' : Nat} {o : RR} (hX : frm A.1 S S2) (h23 : S2.1 119 23 = S.1 119 23) (h6 : S2.1 119 6 = 0) (h4 : S2.1 119 4 = nI a') (ha : a' ≤ n) (haa : a < a') (hg : ∀ x, x < qF f → g x < qF f) {g0 : Nat → Int32} (ho : o = some (.inl (some (.ref A.1)), qH (qN A) (uA S2 A.1 (fa_fill (fun x => nI (g x)) g0 (qF f))))) : mOKr b n f A S a o (.inr (g, sk b n a')) :=
  ⟨qN A, _, A.1, ho, grw.n, hX.tr (frm.uA (Nat.le_refl _)) (Nat.le_refl _), h23, Nat.le_refl _, isR.n hA, h6, rowR.fill hg, a', h4, ha, haa, rfl, by show 2 * (A.1 + 1) ≤ _; omega⟩
/-- one new row, and a fault -/
theorem mk0 (hA : 271 ≤ A.1) {S2 : SS} {k p : Nat} {o : RR} {R : Nat → Nat} (hX : frm A.1 S S2) (h23 : S2.1 119 23 = S.1 119 23) (hk : 0 < k ∧ k < 5) (h6 : S2.1 119 6 = nI k) (h7 : S2.1 119 7 = nI p) (hR : rowR f S2 A.1 R) (ho : o = some (.inl (some (.ref A.1)), qH (qN A) S2)) : mOKr b n f A S a o (.inl (k, p)) :=
  ⟨qN A, S2, A.1, ho, grw.n, hX, h23, Nat.le_refl _, isR.n hA, hk, h6, h7, ⟨R, hR⟩, by show 2 * (A.1 + 1) ≤ _; omega⟩
theorem m_part {brk : Nat → PR (RW × Nat)} (hd : d ≤ 4) (hF : sumF b n f c W Sf d brk) (hU : sumU f Sf) (hA : 271 ≤ A.1) (hC : MC b n f c W S) (h4 : S.1 119 4 = nI a) (ha : a ≤ n) (h6 : S.1 119 6 = 0) (h23 : S.1 119 23 = nI d) : mOKr b n f A S a (fX7_part Sf 119 (qH A S)) (pUn b n f c W brk (sk b n a)) := by
  have hf : f < nF := hC.2.2.2.1.1
  have hq := qz hf
  have hT := mt_of hC
  have hb := hC.2.1
  have hpa := sk_ge (b := b) (n := n) (p := a)
  have hpn := sk_le (b := b) ha
  have hid : sk b n (sk b n a) = sk b n a := sk_id
  have hn := hC.1
  generalize hp : sk b n a = p at *
  let S1 := us S 119 4 (nI p)
  have f1 : frm A.1 S S1 := frm.us (by decide)
  have hC1 : MC b n f c W S1 := mc_frm hC f1 hA
  have hT1 := mt_of hC1
  have h41 : S1.1 119 4 = nI p := by show (us _ _ _ _).1 119 4 = _; rw [us_at, if_pos rfl]
  have sc1 : ∀ k, k ≠ 4 → S1.1 119 k = S.1 119 k := fun k hk => by show (us _ _ _ _).1 119 k = _; rw [us_at, if_neg hk]
  have h61 : S1.1 119 6 = 0 := (sc1 6 (by decide)).trans h6
  have h231 : S1.1 119 23 = nI d := (sc1 23 (by decide)).trans h23
  have hz1 : S1.1 119 15 = nI (qF f) := hC1.2.2.1.2.2.2.2.2.2.1
  have here1 : ∀ A', fX7_here 119 (qH A' S1) = some (.inl (some (.int (cb b n p))), qH A' S1) := fun A' => by
    have := m_here (A := A') hT1 h41 hpn
    rw [hid] at this
    rw [this]
    show _ = some (_, qH A' (us S 119 4 (nI p)))
    rw [show us S1 119 4 (nI p) = us S 119 4 (nI p) from usus]
  have hself : us S1 119 4 (nI p) = S1 := usus
  unfold fX7_part pUn
  have hh := m_here (A := A) hT h4 ha
  rw [hp] at hh
  rw [ob_119, q_cv, m_fine1 h6, q_cal, q_vi, if_neg (by decide), ob_119, q_cv, hh, q_cal, q_vi, m_dig hb rfl, q_cal, q_vi]
  show mOKr b n f A S a (if (if kd b n p = 1 then (1 : Int32) else 0) = 0 then _ else (zgI (qH A S1) 119 7 15).bind _) _
  by_cases k1 : kd b n p = 1
  · have hlt := (kd_1.mp k1).1
    have hg9 : p < en b n p := en_gt
    rw [if_pos k1, if_pos k1, if_neg (by decide), gi_119_15, q_bs, hz1, ob_119, q_cv]
    have hm := m_number (A := A) (lo := 0) (lim := qF f) hT1 h41 hpn h61 rfl (by decide) (m1_int (by omega)) (by omega)
    rw [hid, if_pos k1] at hm
    obtain ⟨v1, v2, v3, v4⟩ := nu_v (S := S1) (p := p) (e := en b n p)
    have hzn : (nuS S1 p (en b n p)).1 119 15 = nI (qF f) := (v3 15 (by decide) (by decide)).trans hz1
    rw [show fX7_number 119 0 (nI (qF f) - 1) (qH A S1) = _ from hm]
    unfold seeN
    rw [if_pos k1]
    by_cases c2 : nv b n p < qF f
    · rw [if_pos ⟨Nat.zero_le _, c2⟩, if_pos c2, q_cal, q_vi, ob_119, q_cv, m_row (f := f) (g := fun _ => nv b n p) hf hzn hA (fun x hx => by rw [if_neg (ne_m1 (by omega))]), q_cal, q_vr]
      show mOKr b n f A S a _ (.inr (fun _ => nv b n p, sk b n (en b n p)))
      exact mk1 hA (f1.tr nu_frm (Nat.le_refl _)) ((v3 23 (by decide) (by decide)).trans (sc1 23 (by decide))) ((v3 6 (by decide) (by decide)).trans h61) v1 (en_le hlt) (by omega) (fun _ _ => c2) rfl
    · obtain ⟨w1, w2, w3, w4⟩ := wr_v (S := nuS S1 p (en b n p)) (k := 2) (p := p)
      rw [if_neg (fun h => c2 h.2), if_neg c2, q_cal, q_vi, ob_119, q_cv, m_row0 hf ((w3 15 (by decide) (by decide)).trans hzn) hA, q_cal, q_vr]
      exact mk0 hA (((f1.tr nu_frm (Nat.le_refl _)).tr (wr_frm (by decide)) (Nat.le_refl _)).tr (frm.uA (Nat.le_refl _)) (Nat.le_refl _)) (((w3 23 (by decide) (by decide)).trans (v3 23 (by decide) (by decide))).trans (sc1 23 (by decide))) (by decide) w1 w2 (zero_row hf) rfl
  rw [if_neg k1, if_neg k1, if_pos rfl, ob_119, q_cv]
  have ht0 := m_word (A := A) (j := 0) hT1 h41 hpn h61 (by decide)
  rw [hid] at ht0
  rw [show fX7_takes 119 (UInt32.ofNat 0) (qH A (us S 119 4 (nI p))) = _ from ht0]
  show mOKr b n f A S a _ (if kd b n p = 4 then _ else _)
  by_cases k4 : kd b n p = 4
  · have hlt := kd_lt (show kd b n p ≠ 0 by omega)
    have hg9 : p < en b n p := en_gt
    rw [if_pos (show kd b n p = wcode 0 from k4), if_pos k4, q_cal, q_vi, if_neg (by decide), ob_119, q_cv]
    have hze : (us S1 119 4 (nI (en b n p))).1 119 15 = nI (qF f) := by rw [us_at, if_neg (by decide)]; exact hz1
    rw [m_row (f := f) (g := fun x => x) hf hze hA (fun x hx => by rw [if_pos rfl]), q_cal, q_vr]
    show mOKr b n f A S a _ (.inr (fun s => s, sk b n (en b n p)))
    exact mk1 hA (f1.tr (frm.us (by decide)) (Nat.le_refl _)) (by rw [us_at, if_neg (by decide)]; exact sc1 23 (by decide)) (by rw [us_at, if_neg (by decide)]; exact h61) (by rw [us_at, if_pos rfl]) (en_le hlt) (by omega) (fun x hx => hx) rfl
  rw [if_neg (show ¬ kd b n p = wcode 0 from k4), if_neg k4, q_cal, q_vi, if_pos rfl, hself, ob_119, q_cv, here1, q_cal, q_vi]
  by_cases k40 : kd b n p = 40
  · rw [if_pos (show cb b n p = (40 : Int32) from (cb_eq (c := 40) hb (by decide)).mpr ((kd_g (by decide)).mp k40)), if_neg (by omega), if_neg (by omega), if_pos k40]
    obtain ⟨A', S', r, x1, x2, x3, x4, x5, x6, x7⟩ := m_brk hd hF hU hA hC1 h41 hpn h61 h231
    have hs := x1 (fun x h => some (.inl (some (.ref x)), h))
    refine ⟨A', S', r, hs, x2, f1.tr x3 (Nat.le_refl _), x4.trans h23.symm, x5, x6, ?_⟩
    rw [hid] at x7
    unfold mRes
    cases hres : brk p with
    | inl e =>
      rw [hres] at x7
      obtain ⟨y1, y2, y3, y4, y5⟩ := x7
      exact ⟨y1, y2, y3, y4, by omega⟩
    | inr w =>
      rw [hres] at x7
      obtain ⟨y1, y2, a', y3, y4, y5, y6, y7⟩ := x7
      exact ⟨y1, y2, a', y3, y4, by omega, y6, by omega⟩
  rw [if_neg (show ¬ cb b n p = (40 : Int32) from fun h => k40 ((kd_g (by decide)).mpr ((cb_eq (c := 40) hb (by decide)).mp h))), if_neg k40, ob_119, q_cv, m_row0 hf hz1 hA, q_cal, q_vr]
  let S2 := zeroS S1 A.1 f
  have f2 : frm A.1 S S2 := f1.tr (frm.uA (Nat.le_refl _)) (Nat.le_refl _)
  have hC2 : MC b n f c W S2 := mc_frm hC f2 hA
  have hA2 : 271 ≤ (qN A).1 := Nat.le_succ_of_le hA
  have hr0 : rowR f S2 A.1 (fun _ => 0) := zero_row hf
  have hzz : ∀ S', frm A.1 S S' → S'.1 119 15 = nI (qF f) := fun S' h => (mc_frm hC h hA).2.2.1.2.2.2.2.2.2.1
  have ht1 := m_word (A := qN A) (S := S2) (j := 1) (mt_of hC2) h41 hpn h61 (by decide)
  rw [hid] at ht1
  rw [ob_119, q_cv]
  rw [show fX7_takes 119 (UInt32.ofNat 1) (qH (qN A) (zeroS S1 A.1 f)) = _ from ht1]
  have hself2 : us S2 119 4 (nI p) = S2 := by
    show us (uA (us S 119 4 (nI p)) A.1 _) 119 4 (nI p) = _
    have : ∀ (T : SS) g, us (uA (us T 119 4 (nI p)) A.1 g) 119 4 (nI p) = uA (us T 119 4 (nI p)) A.1 g := fun T g => by
      have e1 : us (uA (us T 119 4 (nI p)) A.1 g) 119 4 (nI p) = uA (us (us T 119 4 (nI p)) 119 4 (nI p)) A.1 g := rfl
      rw [e1, usus]
    exact this S _
  by_cases k5 : kd b n p = 5
  · have hlt := kd_lt (show kd b n p ≠ 0 by omega)
    have hg9 : p < en b n p := en_gt
    have hle9 := en_le (b := b) hlt
    rw [if_pos (show kd b n p = wcode 1 from k5), if_pos k5, q_cal, q_vi, if_neg (by decide), gr_119_10, q_bs, show (2 : Int32) = nI 2 from rfl, q_ai ql_123 (by decide), q_bs]
    let S3 := us S2 119 4 (nI (en b n p))
    have f3 : frm A.1 S S3 := f2.tr (frm.us (by decide)) (Nat.le_refl _)
    have hC3 : MC b n f c W S3 := mc_frm hC f3 hA
    have hcn : S3.2.1 123 2 = nI c := hC3.2.2.2.1.2.2.2.1
    have hc6 : c ≤ 6 := hC3.2.2.2.1.2.2.2.2.1
    have h43 : S3.1 119 4 = nI (en b n p) := by show (us _ _ _ _).1 119 4 = _; rw [us_at, if_pos rfl]
    have h63 : S3.1 119 6 = 0 := by show (us _ _ _ _).1 119 6 = _; rw [us_at, if_neg (by decide)]; exact h61
    have h233 : S3.1 119 23 = nI d := by show (us _ _ _ _).1 119 23 = _; rw [us_at, if_neg (by decide)]; exact h231
    have hr3 : rowR f S3 A.1 (fun _ => 0) := hr0
    rw [show (us S2 119 4 (nI (en b n p))).2.1 123 2 = nI c from hcn, ob_119, q_cv]
    have hm := m_number (A := qN A) (lo := 0) (lim := c) (mt_of hC3) h43 hle9 h63 rfl (by decide) (m1_int (by omega)) (by omega)
    rw [show sk b n (en b n p) = nx b n p from rfl] at hm
    rw [show fX7_number 119 0 (nI c - 1) (qH (qN A) (us S2 119 4 (nI (en b n p)))) = _ from hm]
    have hpx : en b n p ≤ nx b n p := sk_ge
    have hpxn : nx b n p ≤ n := nx_le hlt
    -- a fault in the number
    have bad : ∀ k pl S4 a4, 0 < k → k < 5 → frm A.1 S S4 → S4.1 119 23 = nI d → S4.1 119 6 = nI k → S4.1 119 7 = nI pl → S4.1 119 4 = nI a4 → a4 ≤ n → rowR f S4 A.1 (fun _ => 0) → mOKr b n f A S a (seqB Sf (fun x54 h56 => fX7_part_123 Sf FU 119 A.1 0 x54 0 h56) (qH (qN A) S4)) (.inl (k, pl)) := by
      intro k pl S4 a4 q1 q2 q3 q4 q5 q6 q7 q8 q9
      obtain ⟨S5, y1, y2, y3, y4, y5, y6⟩ := m_brk0 (A := qN A) hf hU hA2 (mt_of (mc_frm hC q3 hA)) (hzz S4 q3) q7 q8 q5 q1 q2 q4
      have f5 : frm A.1 S S5 := q3.tr y2 (Nat.le_succ _)
      rw [y1, m_123b hf (hzz S5 f5) y4 q1 q2]
      refine ⟨qN (qN A), S5, A.1, rfl, grw.n.tr grw.n, f5, y3.trans h23.symm, Nat.le_refl _, (isR.n hA).g grw.n, ⟨q1, q2⟩, y4, y5.trans q6, ⟨_, q9.eqo y2.1 (fun (h : A.1 = 119 ∨ A.1 + 1 ≤ A.1) => by omega)⟩, ?_⟩
      show 2 * (A.1 + 1 + 1) ≤ _
      omega
    unfold seeN
    by_cases kx : kd b n (nx b n p) = 1
    · rw [if_pos kx, if_pos kx]
      have hltx := (kd_1.mp kx).1
      have hgx : nx b n p < en b n (nx b n p) := en_gt
      obtain ⟨v1, v2, v3, v4⟩ := nu_v (S := S3) (p := nx b n p) (e := en b n (nx b n p))
      have f4 : frm A.1 S (nuS S3 (nx b n p) (en b n (nx b n p))) := f3.tr nu_frm (Nat.le_refl _)
      have hr4 : rowR f (nuS S3 (nx b n p) (en b n (nx b n p))) A.1 (fun _ => 0) := hr3
      by_cases c2 : nv b n (nx b n p) < c
      · rw [if_pos ⟨Nat.zero_le _, c2⟩, if_pos c2, q_cal, q_vi]
        obtain ⟨A', S', r, x1, x2, x3, x4, x5, x6, x7⟩ := m_brk (A := qN A) hd hF hU hA2 (mc_frm hC f4 hA) v1 (en_le hltx) ((v3 6 (by decide) (by decide)).trans h63) ((v3 23 (by decide) (by decide)).trans h233)
        have hs := x1 (fun x54 h56 => fX7_part_123 Sf FU 119 A.1 (nI (nv b n (nx b n p))) x54 0 h56)
        have f5 : frm A.1 S S' := f4.tr x3 (Nat.le_succ _)
        have hr5 : rowR f S' A.1 (fun _ => 0) := hr4.eqo x3.1 (fun (h : A.1 = 119 ∨ A.1 + 1 ≤ A.1) => by omega)
        have isA : isR A' A.1 := (isR.n hA).g x2
        show mOKr b n f A S a (seqB Sf (fun x54 h56 => fX7_part_123 Sf FU 119 A.1 (nI (nv b n (nx b n p))) x54 0 h56) (qH (qN A) (nuS S3 (nx b n p) (en b n (nx b n p))))) (bnd (brk (nx b n (nx b n p))) _)
        rw [hs]
        rw [show sk b n (en b n (nx b n p)) = nx b n (nx b n p) from rfl] at x7
        have x5' : A.1 + 1 ≤ r := x5
        cases hres : brk (nx b n (nx b n p)) with
        | inl e =>
          rw [hres] at x7
          obtain ⟨y1, y2, y3, y4, y5⟩ := x7
          rw [m_123b hf (hzz S' f5) y2 y1.1 y1.2]
          have y5' : 2 * A'.1 ≤ 2 * (A.1 + 1) + (n - en b n (nx b n p)) + 4 := y5
          exact ⟨A', S', A.1, rfl, grw.n.tr x2, f5, x4.trans h23.symm, Nat.le_refl _, isA, y1, y2, y3, ⟨_, hr5⟩, by have := en_le (b := b) hltx; omega⟩
        | inr w =>
          obtain ⟨R, p9⟩ := w
          rw [hres] at x7
          obtain ⟨y1, y2, a', y3, y4, y5, y6, y7⟩ := x7
          have y7' : 2 * A'.1 ≤ 2 * (A.1 + 1) + (a' - en b n (nx b n p)) - 1 := y7
          have hC5 := mc_frm hC f5 hA
          rw [m_123 hC5 y1 isA x6 (by omega) c2 y2]
          refine ⟨A', _, A.1, rfl, grw.n.tr x2, f5.tr (frm.uA (Nat.le_refl _)) (Nat.le_refl _), x4.trans h23.symm, Nat.le_refl _, isA, y1, rowR.fill (fun x hx => (hC5.2.2.2.1.2.2.2.2.2 _ c2 _ (y2 x hx).2).2), a', y3, y4, by omega, y6, by omega⟩
      · obtain ⟨w1, w2, w3, w4⟩ := wr_v (S := nuS S3 (nx b n p) (en b n (nx b n p))) (k := 2) (p := nx b n p)
        rw [if_neg (fun h => c2 h.2), if_neg c2, q_cal, q_vi]
        exact bad 2 (nx b n p) (wrS (nuS S3 (nx b n p) (en b n (nx b n p))) 2 (nx b n p)) (en b n (nx b n p)) (by decide) (by decide) (f4.tr (wr_frm (by decide)) (Nat.le_refl _)) ((w3 23 (by decide) (by decide)).trans ((v3 23 (by decide) (by decide)).trans h233)) w1 w2 ((w3 4 (by decide) (by decide)).trans v1) (en_le hltx) hr4
    · rw [if_neg kx, if_neg kx, q_cal, q_vi]
      obtain ⟨w1, w2, w3, w4⟩ := wr_v (S := us S3 119 4 (nI (nx b n p))) (k := 1) (p := nx b n p)
      exact bad 1 (nx b n p) (wrS (us S3 119 4 (nI (nx b n p))) 1 (nx b n p)) (nx b n p) (by decide) (by decide) ((f3.tr (frm.us (by decide)) (Nat.le_refl _)).tr (wr_frm (by decide)) (Nat.le_refl _)) ((w3 23 (by decide) (by decide)).trans (by rw [us_at, if_neg (by decide)]; exact h233)) w1 w2 ((w3 4 (by decide) (by decide)).trans (by rw [us_at, if_pos rfl])) hpxn hr3
  rw [if_neg (show ¬ kd b n p = wcode 1 from k5), if_neg k5, q_cal, q_vi, if_pos rfl, hself2, ob_119, q_cv]
  have ht4 := m_word (A := qN A) (S := S2) (j := 4) (mt_of hC2) h41 hpn h61 (by decide)
  rw [hid] at ht4
  rw [ht4]
  by_cases k6 : kd b n p = 6
  · have hlt := kd_lt (show kd b n p ≠ 0 by omega)
    have hg9 : p < en b n p := en_gt
    have hle9 := en_le (b := b) hlt
    rw [if_pos (show kd b n p = wcode 4 from k6), if_pos k6, q_cal, q_vi, if_neg (by decide), ob_119, q_cv]
    let S3 := us S2 119 4 (nI (en b n p))
    have f3 : frm A.1 S S3 := f2.tr (frm.us (by decide)) (Nat.le_refl _)
    have hC3 : MC b n f c W S3 := mc_frm hC f3 hA
    have h43 : S3.1 119 4 = nI (en b n p) := by show (us _ _ _ _).1 119 4 = _; rw [us_at, if_pos rfl]
    have h63 : S3.1 119 6 = 0 := by show (us _ _ _ _).1 119 6 = _; rw [us_at, if_neg (by decide)]; exact h61
    have h233 : S3.1 119 23 = nI d := by show (us _ _ _ _).1 119 23 = _; rw [us_at, if_neg (by decide)]; exact h231
    have hr3 : rowR f S3 A.1 (fun _ => 0) := hr0
    have hm := m_number (A := qN A) (lo := 0) (lim := 10000) (h9 := 9999) (mt_of hC3) h43 hle9 h63 rfl (by decide) (by decide) (by decide)
    rw [show sk b n (en b n p) = nx b n p from rfl] at hm
    rw [show fX7_number 119 0 9999 (qH (qN A) (us S2 119 4 (nI (en b n p)))) = _ from hm]
    have hpx : en b n p ≤ nx b n p := sk_ge
    have hpxn : nx b n p ≤ n := nx_le hlt
    -- a fault in the second number, or in the first
    have bad2 : ∀ k pl S4 x, 0 < k → k < 5 → frm A.1 S S4 → S4.1 119 23 = nI d → S4.1 119 6 = nI k → S4.1 119 7 = nI pl → rowR f S4 A.1 (fun _ => 0) → mOKr b n f A S a (fX7_part_201 Sf FU 119 A.1 x 0 0 (qH (qN A) S4)) (.inl (k, pl)) := by
      intro k pl S4 x q1 q2 q3 q4 q5 q6 q9
      exact mk0 hA q3 (q4.trans h23.symm) ⟨q1, q2⟩ q5 q6 q9 (m_201b hf (hzz S4 q3) q5 q1 q2 _ _ _)
    have bad1 : ∀ k pl S4, 0 < k → k < 5 → frm A.1 S S4 → S4.1 119 23 = nI d → S4.1 119 6 = nI k → S4.1 119 7 = nI pl → rowR f S4 A.1 (fun _ => 0) → mOKr b n f A S a ((zgI (qH (qN A) S4) 119 7 15).bind fun x41 => zcv (zob (qH (qN A) S4) 119 7) (fX7_number 119 0 (x41 - 1) (qH (qN A) S4)) fun v42 h43 => zvi v42 fun x44 => fX7_part_201 Sf FU 119 A.1 0 x44 0 h43) (.inl (k, pl)) := by
      intro k pl S4 q1 q2 q3 q4 q5 q6 q9
      rw [gi_119_15, q_bs, ob_119, q_cv, m_number0 q5 q1 q2, q_cal, q_vi]
      exact bad2 k pl S4 0 q1 q2 q3 q4 q5 q6 q9
    unfold seeN
    by_cases kx : kd b n (nx b n p) = 1
    · rw [if_pos kx, if_pos kx]
      have hltx := (kd_1.mp kx).1
      have hgx : nx b n p < en b n (nx b n p) := en_gt
      have hlex := en_le (b := b) hltx
      obtain ⟨v1, v2, v3, v4⟩ := nu_v (S := S3) (p := nx b n p) (e := en b n (nx b n p))
      have f4 : frm A.1 S (nuS S3 (nx b n p) (en b n (nx b n p))) := f3.tr nu_frm (Nat.le_refl _)
      have hr4 : rowR f (nuS S3 (nx b n p) (en b n (nx b n p))) A.1 (fun _ => 0) := hr3
      have h64 : (nuS S3 (nx b n p) (en b n (nx b n p))).1 119 6 = 0 := (v3 6 (by decide) (by decide)).trans h63
      have h234 : (nuS S3 (nx b n p) (en b n (nx b n p))).1 119 23 = nI d := (v3 23 (by decide) (by decide)).trans h233
      by_cases c2 : nv b n (nx b n p) < 10000
      · rw [if_pos ⟨Nat.zero_le _, c2⟩, if_pos c2, q_cal, q_vi, gi_119_15, q_bs, hzz _ f4, ob_119, q_cv]
        have hm2 := m_number (A := qN A) (lo := 0) (lim := qF f) (mt_of (mc_frm hC f4 hA)) v1 hlex h64 rfl (by decide) (m1_int (by omega)) (by omega)
        rw [show sk b n (en b n (nx b n p)) = nx b n (nx b n p) from rfl] at hm2
        rw [show fX7_number 119 0 (nI (qF f) - 1) (qH (qN A) (nuS S3 (nx b n p) (en b n (nx b n p)))) = _ from hm2]
        show mOKr b n f A S a _ (bnd (if kd b n (nx b n (nx b n p)) = 1 then _ else _) _)
        by_cases ky : kd b n (nx b n (nx b n p)) = 1
        · rw [if_pos ky, if_pos ky]
          have hlty := (kd_1.mp ky).1
          have hgy : nx b n (nx b n p) < en b n (nx b n (nx b n p)) := en_gt
          have hxy : en b n (nx b n p) ≤ nx b n (nx b n p) := sk_ge
          obtain ⟨u1, u2, u3, u4⟩ := nu_v (S := nuS S3 (nx b n p) (en b n (nx b n p))) (p := nx b n (nx b n p)) (e := en b n (nx b n (nx b n p)))
          have f6 : frm A.1 S (nuS (nuS S3 (nx b n p) (en b n (nx b n p))) (nx b n (nx b n p)) (en b n (nx b n (nx b n p)))) := f4.tr nu_frm (Nat.le_refl _)
          by_cases c3 : nv b n (nx b n (nx b n p)) < qF f
          · rw [if_pos ⟨Nat.zero_le _, c3⟩, if_pos c3, q_cal, q_vi, m_201 hf (mc_frm hC f6 hA).2.2.1 ((u3 6 (by decide) (by decide)).trans h64) (isR.n hA) c2 c3]
            show mOKr b n f A S a _ (.inr (fun s => dk f (nv b n (nx b n (nx b n p))) s (nv b n (nx b n p)), sk b n (en b n (nx b n (nx b n p)))))
            exact mk1 hA f6 ((u3 23 (by decide) (by decide)).trans (h234.trans h23.symm)) ((u3 6 (by decide) (by decide)).trans h64) u1 (en_le hlty) (by omega) (fun x hx => dk_lt hf c3 hx _) rfl
          · obtain ⟨w1, w2, w3, w4⟩ := wr_v (S := nuS (nuS S3 (nx b n p) (en b n (nx b n p))) (nx b n (nx b n p)) (en b n (nx b n (nx b n p)))) (k := 2) (p := nx b n (nx b n p))
            rw [if_neg (fun h => c3 h.2), if_neg c3, q_cal, q_vi]
            exact bad2 2 _ _ _ (by decide) (by decide) (f6.tr (wr_frm (by decide)) (Nat.le_refl _)) ((w3 23 (by decide) (by decide)).trans ((u3 23 (by decide) (by decide)).trans h234)) w1 w2 hr4
        · obtain ⟨w1, w2, w3, w4⟩ := wr_v (S := us (nuS S3 (nx b n p) (en b n (nx b n p))) 119 4 (nI (nx b n (nx b n p)))) (k := 1) (p := nx b n (nx b n p))
          rw [if_neg ky, if_neg ky, q_cal, q_vi]
          exact bad2 1 _ _ _ (by decide) (by decide) ((f4.tr (frm.us (by decide)) (Nat.le_refl _)).tr (wr_frm (by decide)) (Nat.le_refl _)) ((w3 23 (by decide) (by decide)).trans (by rw [us_at, if_neg (by decide)]; exact h234)) w1 w2 hr4
      · obtain ⟨w1, w2, w3, w4⟩ := wr_v (S := nuS S3 (nx b n p) (en b n (nx b n p))) (k := 2) (p := nx b n p)
        rw [if_neg (fun h => c2 h.2), if_neg c2, q_cal, q_vi]
        exact bad1 2 _ _ (by decide) (by decide) (f4.tr (wr_frm (by decide)) (Nat.le_refl _)) ((w3 23 (by decide) (by decide)).trans h234) w1 w2 hr4
    · obtain ⟨w1, w2, w3, w4⟩ := wr_v (S := us S3 119 4 (nI (nx b n p))) (k := 1) (p := nx b n p)
      rw [if_neg kx, if_neg kx, q_cal, q_vi]
      exact bad1 1 _ _ (by decide) (by decide) ((f3.tr (frm.us (by decide)) (Nat.le_refl _)).tr (wr_frm (by decide)) (Nat.le_refl _)) ((w3 23 (by decide) (by decide)).trans (by rw [us_at, if_neg (by decide)]; exact h233)) w1 w2 hr3
  rw [if_neg (show ¬ kd b n p = wcode 4 from k6), if_neg k6, q_cal, q_vi, if_pos rfl, hself2, gi_119_4, q_bs]
  rw [show S2.1 119 4 = nI p from h41, ob_119, q_cv, m_wrong1 (S := S2) (k := 1) (k9 := 1) h61 rfl, q_cal, q_vn]
  obtain ⟨w1, w2, w3, w4⟩ := wr_v (S := S2) (k := 1) (p := p)
  exact mk0 hA (f2.tr (wr_frm (by decide)) (Nat.le_refl _)) ((w3 23 (by decide) (by decide)).trans (h231.trans h23.symm)) (by decide) w1 w2 hr0 rfl
end QTO
