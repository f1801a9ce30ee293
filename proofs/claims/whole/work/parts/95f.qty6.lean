/-! the reference's reading: sums, all depths, rows told -/
section QTQ
variable {A : AS} {S : SS} {b : Nat → Nat} {n f c a : Nat} {W : Nat → Nat → Nat} {Sf : Nat → AH → RR} {d : Nat} {brk : Nat → PR (RW × Nat)}
theorem m_sumL (hd : d ≤ 4) (hF : sumF b n f c W Sf d brk) (hU : sumU f Sf) {N r : Nat} (hN : 271 ≤ N) (hNr : N ≤ r) : ∀ k K A S a R, 300 ≤ k + a → k < K → N ≤ A.1 → isR A r → MC b n f c W S → S.1 119 4 = nI a → a ≤ n → S.1 119 6 = 0 → S.1 119 23 = nI d → rowR f S r R → mLp b n f N A S a r (fX7_sum_5 Sf K 119 r (qH A S)) (pSL b n f c W brk k (R, sk b n a)) := by
  intro k
  induction k with
  | zero =>
    intro K A S a R h1 h2 hNA hr hC h4 ha h6 h23 hR
    obtain ⟨K, rfl⟩ : ∃ k', K = k' + 1 := ⟨K - 1, by omega⟩
    have hn := hC.1
    have hpn := sk_le (b := b) ha
    have hs : sk b n a = a := sk_n (by omega)
    have hh := m_here (A := A) (mt_of hC) h4 ha
    have hh2 := m_here (A := A) (S := us S 119 4 (nI (sk b n a))) (a := sk b n a) (mt_us (mt_of hC) (by decide)) (by rw [us_at, if_pos rfl]) hpn
    rw [usus, sk_id] at hh2
    have hk : ¬ cb b n (sk b n a) = (43 : Int32) := fun h => by
      have := (cb_eq (c := 43) hC.2.1 (by decide)).mp h
      omega
    have hk2 : ¬ cb b n (sk b n a) = (45 : Int32) := fun h => by
      have := (cb_eq (c := 45) hC.2.1 (by decide)).mp h
      omega
    rw [fX7_sum_5, ob_119, q_cv, m_fine1 h6, q_cal, q_vi, if_neg (by decide), ob_119, q_cv, hh, q_cal, q_vi, if_neg hk, ob_119, q_cv, hh2, q_cal, q_vi, if_neg hk2]
    exact ⟨A, _, rfl, grw.rf, frm.us (by decide), by rw [us_at, if_neg (by decide)], by rw [us_at, if_neg (by decide)]; exact h6, hR, sk b n a, by rw [us_at, if_pos rfl], sk_le ha, sk_ge, sk_id, by omega⟩
  | succ k ih =>
    intro K A S a R h1 h2 hNA hr hC h4 ha h6 h23 hR
    obtain ⟨K, rfl⟩ : ∃ k', K = k' + 1 := ⟨K - 1, by omega⟩
    have hf : f < nF := hC.2.2.2.1.1
    have hb := hC.2.1
    have hA : 271 ≤ A.1 := by omega
    have hpa := sk_ge (b := b) (n := n) (p := a)
    have hpn := sk_le (b := b) ha
    have hh := m_here (A := A) (mt_of hC) h4 ha
    have hh2 := m_here (A := A) (S := us S 119 4 (nI (sk b n a))) (a := sk b n a) (mt_us (mt_of hC) (by decide)) (by rw [us_at, if_pos rfl]) hpn
    rw [usus, sk_id] at hh2
    -- one step, with a sign
    have step : ∀ (sg : Nat) (more : Bool), isG sg = true → kd b n (sk b n a) = sg → mLp b n f N A S a r (fX7_sum_44 Sf (fun p0 p1 h => fX7_sum_5 Sf K p0 p1 h) 119 r (if more = true then 1 else 0) (qH A (us S 119 4 (nI (sk b n a))))) (bnd (pP b n f c W brk (nx b n (sk b n a))) (fun r' => pSL b n f c W brk k (fun s => gsF f more (R s) (r'.1 s), r'.2))) := by
      intro sg more hsg hks
      have hlt : sk b n a < n := ((kd_g hsg).mp hks).1
      have hen := en_g hsg hks
      unfold fX7_sum_44
      rw [gi_119_4, q_bs, us_at, if_pos rfl, nI_1, pi_119_4, q_bs, usus, ob_119, q_cv]
      let S1 := us S 119 4 (nI (sk b n a + 1))
      have f1 : frm N S S1 := frm.us (by decide)
      have hC1 := mc_frm hC f1 hN
      have h41 : S1.1 119 4 = nI (sk b n a + 1) := by show (us _ _ _ _).1 119 4 = _; rw [us_at, if_pos rfl]
      have sc1 : ∀ k, k ≠ 4 → S1.1 119 k = S.1 119 k := fun k hk => by show (us _ _ _ _).1 119 k = _; rw [us_at, if_neg hk]
      have hu := m_prod (A := A) (S := S1) hd hF hU hA hC1 h41 (by omega) ((sc1 6 (by decide)).trans h6) ((sc1 23 (by decide)).trans h23)
      rw [show sk b n (sk b n a + 1) = nx b n (sk b n a) from by unfold nx; rw [hen]] at hu
      obtain ⟨A1, S2, r2, b1, b2, b3, b4, b5, b6, b7⟩ := hu
      rw [show fX7_product Sf 119 (qH A (us S 119 4 (nI (sk b n a + 1)))) = _ from b1, q_cal, q_vr]
      have f2 : frm N S S2 := f1.tr b3 hNA
      have hC2 := mc_frm hC f2 hN
      have hrne : r2 ≠ r := fun e => Nat.lt_irrefl r (Nat.lt_of_lt_of_le hr.2.1 (e ▸ b5))
      have hr1 : isR A1 r := hr.g b2
      have hRr : rowR f S2 r R := (show rowR f S1 r R from hR).eqo b3.1 (fun (h : r = 119 ∨ A.1 ≤ r) => by have := hr.2.1; have := hr.1; omega)
      have h232 : S2.1 119 23 = S.1 119 23 := b4.trans (sc1 23 (by decide))
      unfold mRes at b7
      cases hres : pP b n f c W brk (nx b n (sk b n a)) with
      | inl e =>
        rw [hres] at b7
        obtain ⟨y1, y2, y3, ⟨R2, y4⟩, y5⟩ := b7
        rw [m_63 hf hC2.2.2.1 hr1 b6 hrne hRr y4]
        obtain ⟨K, rfl⟩ : ∃ k', K = k' + 1 := ⟨K - 1, by omega⟩
        have y2' : (uA S2 r (fa_fill (fun s => nI (gsF f more (R s) (R2 s))) (S2.2.1 r) (qF f))).1 119 6 = nI e.1 := y2
        show mLp b n f N A S a r (fX7_sum_5 Sf (K + 1) 119 r (qH A1 _)) _
        rw [fX7_sum_5, ob_119, q_cv, m_fine0 y2' y1.1 y1.2, q_cal, q_vi, if_pos rfl]
        exact ⟨A1, _, rfl, b2, f2.tr (frm.uA hNr) (Nat.le_refl _), h232, y1, y2, y3, ⟨_, rowR.fill (fun x hx => gs_lt hf (hRr x hx).2 (y4 x hx).2)⟩, by omega⟩
      | inr w =>
        obtain ⟨R2, p2⟩ := w
        rw [hres] at b7
        obtain ⟨y1, y2, a', y3, y4, y5, y6, y7⟩ := b7
        have y6' : sk b n a' = p2 := y6
        rw [m_63 hf hC2.2.2.1 hr1 b6 hrne hRr y2]
        have f3 : frm N S (uA S2 r (fa_fill (fun s => nI (gsF f more (R s) (R2 s))) (S2.2.1 r) (qF f))) := f2.tr (frm.uA hNr) (Nat.le_refl _)
        have hI := ih K A1 (uA S2 r (fa_fill (fun s => nI (gsF f more (R s) (R2 s))) (S2.2.1 r) (qF f))) a' (fun s => gsF f more (R s) (R2 s)) (by omega) (by omega) (by have := b2.1; omega) hr1 (mc_frm hC f3 hN) y3 y4 y1 (h232.trans h23) (rowR.fill (fun x hx => gs_lt hf (hRr x hx).2 (y2 x hx).2))
        rw [y6'] at hI
        exact lp_step b2 f3 h232 (show a + 1 ≤ sk b n a + 1 by omega) y5 y4 y7 hI
    rw [fX7_sum_5, ob_119, q_cv, m_fine1 h6, q_cal, q_vi, if_neg (by decide), ob_119, q_cv, hh, q_cal, q_vi, pSL]
    show mLp b n f N A S a r _ (if kd b n (sk b n a) = 43 then _ else if kd b n (sk b n a) = 45 then _ else _)
    unfold fX7_sum_30
    by_cases k43 : kd b n (sk b n a) = 43
    · have e43 : cb b n (sk b n a) = (43 : Int32) := (cb_eq (c := 43) hb (by decide)).mpr ((kd_g (by decide)).mp k43)
      rw [if_pos k43, if_pos e43, ob_119, q_cv, hh2, q_cal, q_vi, if_pos e43]
      exact step 43 true (by decide) k43
    · have e43 : ¬ cb b n (sk b n a) = (43 : Int32) := fun h => k43 ((kd_g (by decide)).mpr ((cb_eq (c := 43) hb (by decide)).mp h))
      rw [if_neg k43, if_neg e43, ob_119, q_cv, hh2, q_cal, q_vi]
      by_cases k45 : kd b n (sk b n a) = 45
      · have e45 : cb b n (sk b n a) = (45 : Int32) := (cb_eq (c := 45) hb (by decide)).mpr ((kd_g (by decide)).mp k45)
        rw [if_pos k45, if_pos e45, ob_119, q_cv, hh2, q_cal, q_vi, if_neg e43]
        exact step 45 false (by decide) k45
      · have e45 : ¬ cb b n (sk b n a) = (45 : Int32) := fun h => k45 ((kd_g (by decide)).mpr ((cb_eq (c := 45) hb (by decide)).mp h))
        rw [if_neg k45, if_neg e45]
        exact ⟨A, _, rfl, grw.rf, frm.us (by decide), by rw [us_at, if_neg (by decide)], by rw [us_at, if_neg (by decide)]; exact h6, hR, sk b n a, by rw [us_at, if_pos rfl], hpn, hpa, sk_id, by omega⟩
theorem m_sumB (hd : d ≤ 4) (hF : sumF b n f c W Sf d brk) (hU : sumU f Sf) (hA : 271 ≤ A.1) (hC : MC b n f c W S) (h4 : S.1 119 4 = nI a) (ha : a ≤ n) (h6 : S.1 119 6 = 0) (h23 : S.1 119 23 = nI d) : mOKr b n f A S a (fX7_sumB Sf 119 (qH A S)) (pS b n f c W brk (sk b n a)) := by
  obtain ⟨A1, S1, r, a1, a2, a3, a4, a5, a6, a7⟩ := m_prod hd hF hU hA hC h4 ha h6 h23
  unfold fX7_sumB pS
  rw [ob_119, q_cv, a1, q_cal, q_vr]
  unfold mRes at a7
  cases hres : pP b n f c W brk (sk b n a) with
  | inl e =>
    rw [hres] at a7
    rw [show FU = 19999 + 1 from rfl, fX7_sum_5, ob_119, q_cv, m_fine0 a7.2.1 a7.1.1 a7.1.2, q_cal, q_vi, if_pos rfl]
    exact ⟨A1, S1, r, rfl, a2, a3, a4, a5, a6, a7⟩
  | inr w =>
    obtain ⟨R, p⟩ := w
    rw [hres] at a7
    obtain ⟨y1, y2, a', y3, y4, y5, y6, y7⟩ := a7
    have y6' : sk b n a' = p := y6
    have hl := m_sumL hd hF hU (N := A.1) (r := r) hA a5 300 FU A1 S1 a' R (by omega) (by unfold FU; omega) a2.1 a6 (mc_frm hC a3 hA) y3 y4 y1 (a4.trans h23) y2
    rw [y6'] at hl
    exact lp_join a2 a3 a4 a5 a6 y5 y4 y7 hl
theorem m_unf (hf : f < nF) (Sf : Nat → AH → RR) : sumU f (fX7_sumB Sf) := by
  intro A S k hA hz h6 h0 h5
  have h6' : (zeroS S A.1 f).1 119 6 = nI k := h6
  have e1 : fX7_part Sf 119 (qH A S) = some (.inl (some (.ref A.1)), qH (qN A) (zeroS S A.1 f)) := by
    unfold fX7_part
    rw [ob_119, q_cv, m_fine0 h6 h0 h5, q_cal, q_vi, if_pos rfl, ob_119, q_cv, m_row0 hf hz hA, q_cal, q_vr]
  have e2 : fX7_unit Sf 119 (qH A S) = some (.inl (some (.ref A.1)), qH (qN A) (zeroS S A.1 f)) := by
    unfold fX7_unit
    rw [ob_119, q_cv, e1, q_cal, q_vr, ob_119, q_cv, m_fine0 h6' h0 h5, q_cal, q_vi, if_pos rfl]
  have e3 : fX7_product Sf 119 (qH A S) = some (.inl (some (.ref A.1)), qH (qN A) (zeroS S A.1 f)) := by
    unfold fX7_product
    rw [ob_119, q_cv, e2, q_cal, q_vr, show FU = 19999 + 1 from rfl, fX7_product_5, ob_119, q_cv, m_fine0 h6' h0 h5, q_cal, q_vi, if_pos rfl]
  unfold fX7_sumB
  rw [ob_119, q_cv, e3, q_cal, q_vr, show FU = 19999 + 1 from rfl, fX7_sum_5, ob_119, q_cv, m_fine0 h6' h0 h5, q_cal, q_vi, if_pos rfl]
theorem m_sum (hf : f < nF) : ∀ r m, r ≤ 4 → r + 1 ≤ m → ∀ A S a, 271 ≤ A.1 → MC b n f c W S → S.1 119 4 = nI a → a ≤ n → S.1 119 6 = 0 → S.1 119 23 = nI (4 - r) → mOKr b n f A S a (fX7_sum (m + 1) 119 (qH A S)) (pS b n f c W (pBr b n f c W r) (sk b n a)) := by
  intro r
  induction r with
  | zero =>
    intro m _ hm A S a hA hC h4 ha h6 h23
    obtain ⟨m, rfl⟩ : ∃ k', m = k' + 1 := ⟨m - 1, by omega⟩
    exact m_sumB (d := 4) (Sf := fX7_sum (m + 1)) (brk := pBr b n f c W 0) (by decide) (Or.inr ⟨rfl, rfl⟩) (m_unf hf (fX7_sum m)) hA hC h4 ha h6 h23
  | succ r ih =>
    intro m h1 h2 A S a hA hC h4 ha h6 h23
    obtain ⟨m, rfl⟩ : ∃ k', m = k' + 1 := ⟨m - 1, by omega⟩
    refine m_sumB (d := 4 - (r + 1)) (Sf := fX7_sum (m + 1)) (brk := pBr b n f c W (r + 1)) (by omega) (Or.inl ⟨by omega, r, rfl, fun A S a hA hC h4 ha h6 h23 => ?_⟩) (m_unf hf (fX7_sum m)) hA hC h4 ha h6 h23
    rw [show 4 - (r + 1) + 1 = 4 - r by omega] at h23
    exact ih m (by omega) (by omega) A S a hA hC h4 ha h6 h23
end QTQ
