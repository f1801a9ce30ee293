/-! the reference's reading: signs, numbers, brackets, rows -/
theorem us_comm {S : SS} {a k j : Nat} {v w : Int32} (h : k ≠ j) : us (us S a k v) a j w = us (us S a j w) a k v := by
  refine Prod.ext ?_ rfl
  funext x
  by_cases e : x = a
  · subst e
    funext i
    rw [us_at, us_at, us_at, us_at]
    by_cases e1 : i = j
    · rw [if_pos e1, if_neg (by omega), if_pos e1]
    · rw [if_neg e1, if_neg e1]
  · rw [us_ne e, us_ne e, us_ne e, us_ne e]
section QTM
variable {A : AS} {S : SS} {b : Nat → Nat} {n a : Nat}
theorem en_g {c p : Nat} (hc : isG c = true) (h : kd b n p = c) : en b n p = p + 1 := by
  obtain ⟨h1, h2⟩ := (kd_g hc).mp h
  have cl : isL c = false ∧ isD c = false := by unfold isG at hc; unfold isL isD; simp at hc ⊢; omega
  unfold en
  rw [h2, if_neg (by rw [cl.2]; decide), if_neg (by rw [cl.1]; decide)]
theorem g_256 {c : Nat} (hc : isG c = true) : c < 256 := by unfold isG at hc; simp at hc; omega
theorem m_must (hT : MT b n S) (h4 : S.1 119 4 = nI a) (ha : a ≤ n) (h6 : S.1 119 6 = 0) {c : Nat} (hc : isG c = true) {c9 : Int32} (hc9 : c9 = nI c) : fX7_must 119 c9 (qH A S) = if kd b n (sk b n a) = c then some (.inl none, qH A (us S 119 4 (nI (en b n (sk b n a))))) else some (.inl none, qH A (wrS (us S 119 4 (nI (sk b n a))) 1 (sk b n a))) := by
  subst hc9
  have h41 : (us S 119 4 (nI (sk b n a))).1 119 4 = nI (sk b n a) := by rw [us_at, if_pos rfl]
  have h61 : (us S 119 4 (nI (sk b n a))).1 119 6 = 0 := by rw [us_at, if_neg (by decide)]; exact h6
  unfold fX7_must
  rw [ob_119, q_cv, m_fine1 h6, q_cal, q_vi, if_neg (by decide), ob_119, q_cv, m_here hT h4 ha, q_cal, q_vi]
  by_cases e : kd b n (sk b n a) = c
  · rw [if_pos e, if_pos ((cb_eq hT.2.1 (g_256 hc)).mpr ((kd_g hc).mp e)), gi_119_4, q_bs, h41, nI_1, pi_119_4, q_bs, usus, en_g hc e]
  · rw [if_neg e, if_neg (fun h => e ((kd_g hc).mpr ((cb_eq hT.2.1 (g_256 hc)).mp h))), gi_119_4, q_bs, h41, ob_119, q_cv, m_wrong1 (k := 1) (k9 := 1) h61 rfl, q_cal, q_vn]
theorem m_must0 {k : Nat} (h : S.1 119 6 = nI k) (h0 : 0 < k) (h5 : k < 5) (x : Int32) : fX7_must 119 x (qH A S) = some (.inl none, qH A S) := by
  unfold fX7_must
  rw [ob_119, q_cv, m_fine0 h h0 h5, q_cal, q_vi, if_pos rfl]
theorem m_number0 {k : Nat} (h : S.1 119 6 = nI k) (h0 : 0 < k) (h5 : k < 5) (x y : Int32) : fX7_number 119 x y (qH A S) = some (.inl (some (.int 0)), qH A S) := by
  unfold fX7_number
  rw [ob_119, q_cv, m_fine0 h h0 h5, q_cal, q_vi, if_pos rfl]
/-- behind a number -/
def nuS (S : SS) (p e : Nat) : SS := us (us S 119 22 (nI p)) 119 4 (nI e)
theorem nu_v {S : SS} {p e : Nat} : (nuS S p e).1 119 4 = nI e ∧ (nuS S p e).1 119 22 = nI p ∧ (∀ j, j ≠ 4 → j ≠ 22 → (nuS S p e).1 119 j = S.1 119 j) ∧ (nuS S p e).2 = S.2 := by
  unfold nuS
  refine ⟨by rw [us_at, if_pos rfl], by rw [us_at, if_neg (by decide), us_at, if_pos rfl], fun j h1 h2 => by rw [us_at, if_neg h1, us_at, if_neg h2], rfl⟩
theorem nu_frm {S : SS} {N p e : Nat} : frm N S (nuS S p e) := (frm.us (by decide)).tr (frm.us (by decide)) (Nat.le_refl _)
theorem m_number (hT : MT b n S) (h4 : S.1 119 4 = nI a) (ha : a ≤ n) (h6 : S.1 119 6 = 0) {lo lim : Nat} {l9 h9 : Int32} (hl9 : l9 = nI lo) (hlo : lo < 100) (hh9 : h9.toInt = (lim : Int) - 1) (hlim : lim ≤ 10000) :
    fX7_number 119 l9 h9 (qH A S) = if kd b n (sk b n a) = 1 then (if lo ≤ nv b n (sk b n a) ∧ nv b n (sk b n a) < lim then some (.inl (some (.int (nI (nv b n (sk b n a))))), qH A (nuS S (sk b n a) (en b n (sk b n a)))) else some (.inl (some (.int 0)), qH A (wrS (nuS S (sk b n a) (en b n (sk b n a))) 2 (sk b n a)))) else some (.inl (some (.int 0)), qH A (wrS (us S 119 4 (nI (sk b n a))) 1 (sk b n a))) := by
  subst hl9
  have hn := hT.1
  have hb := hT.2.1
  have h41 : (us S 119 4 (nI (sk b n a))).1 119 4 = nI (sk b n a) := by rw [us_at, if_pos rfl]
  have h61 : (us S 119 4 (nI (sk b n a))).1 119 6 = 0 := by rw [us_at, if_neg (by decide)]; exact h6
  unfold fX7_number
  rw [ob_119, q_cv, m_fine1 h6, q_cal, q_vi, if_neg (by decide), ob_119, q_cv, m_here hT h4 ha, q_cal, q_vi, m_dig hb rfl, q_cal, q_vi]
  generalize hp : sk b n a = p at *
  have hpn : p ≤ n := by rw [← hp]; exact sk_le ha
  by_cases c1 : kd b n p = 1
  · have hlt := (kd_1.mp c1).1
    have hd0 := (kd_1.mp c1).2
    rw [if_pos c1, if_pos c1, if_neg (by decide), gi_119_4, q_bs, h41, pi_119_22, q_bs]
    have hen : en b n p = re isD b n (p + 1) := by unfold en; rw [if_pos hd0]
    have hle := en_le (b := b) hlt
    have hgt : p < en b n p := en_gt
    have sw : ∀ e, us (us (us S 119 4 (nI p)) 119 22 (nI p)) 119 4 (nI e) = nuS S p e := by
      intro e
      unfold nuS
      rw [us_comm (k := 4) (j := 22) (by decide), usus]
    have fin : ∀ S1 : SS, S1.1 119 6 = 0 → S1.1 119 22 = nI p → (zca (fX7_in (nI (min (nv b n p) 100000)).toInt64 (nI lo).toInt64 h9.toInt64 (qH A S1)) fun v8 h9' => zvi v8 fun x10 => if x10 = 0 then ((zgI h9' 119 7 22).bind fun x11 => zcv (zob h9' 119 7) (fX7_wrong 119 2 x11 h9') fun v12 h13 => zvn v12 <| fX7_number_110 119 (nI (min (nv b n p) 100000)) h13) else fX7_number_110 119 (nI (min (nv b n p) 100000)) h9') = if lo ≤ nv b n p ∧ nv b n p < lim then some (.inl (some (.int (nI (nv b n p)))), qH A S1) else some (.inl (some (.int 0)), qH A (wrS S1 2 p)) := by
      intro S1 x6 x22
      have hcond : (nI lo ≤ nI (min (nv b n p) 100000) ∧ nI (min (nv b n p) 100000) ≤ h9) ↔ (lo ≤ nv b n p ∧ nv b n p < lim) := by
        rw [nI_leI (by omega) (by omega), Int32.le_iff_toInt_le, nI_toInt (by omega), hh9]
        omega
      rw [m_in, q_cal, q_vi]
      by_cases c2 : lo ≤ nv b n p ∧ nv b n p < lim
      · rw [if_pos c2, if_pos (hcond.mpr c2), if_neg (by decide), show min (nv b n p) 100000 = nv b n p by omega]
        unfold fX7_number_110
        rw [ob_119, q_cv, m_fine1 x6, q_cal, q_vi, if_neg (by decide)]
      · rw [if_neg c2, if_neg (fun h => c2 (hcond.mp h)), if_pos rfl, gi_119_22, q_bs, x22, ob_119, q_cv, m_wrong1 (k := 2) (k9 := 2) x6 rfl, q_cal, q_vn]
        unfold fX7_number_110
        rw [ob_119, q_cv, m_fine0 (k := 2) wr_v.1 (by decide) (by decide), q_cal, q_vi, if_pos rfl]
    have key : ∀ d e K S1, e + d = en b n p → d < K → p ≤ e → MT b n S1 → S1.1 119 4 = nI e → S1.1 119 6 = 0 → S1.1 119 22 = nI p → (∀ e', us S1 119 4 (nI e') = nuS S p e') → (e = en b n p → S1 = nuS S p e) → fX7_number_40 K 119 (nI lo) h9 (nI (min (dv b p (e - p)) 100000)) (qH A S1) = if lo ≤ nv b n p ∧ nv b n p < lim then some (.inl (some (.int (nI (nv b n p)))), qH A (nuS S p (en b n p))) else some (.inl (some (.int 0)), qH A (wrS (nuS S p (en b n p)) 2 p)) := by
      intro d
      induction d with
      | zero =>
        intro e K S1 h1 h2 h3 hT1 x4 x6 x22 xs xe
        obtain ⟨K, rfl⟩ : ∃ k', K = k' + 1 := ⟨K - 1, by omega⟩
        obtain rfl : e = en b n p := by omega
        have hnd : ¬ kd b n (en b n p) = 1 := by
          rw [kd_1]
          rintro ⟨y1, y2⟩
          rw [hen] at y1 y2
          exact re_not y1 y2
        rw [fX7_number_40, gi_119_4, q_bs, x4, ob_119, q_cv, m_byteAt hT1 (by omega), q_cal, q_vi, m_dig hb rfl, if_neg hnd, q_cal, q_vi, if_pos rfl]
        have := fin S1 x6 x22
        rw [xe rfl] at this ⊢
        exact this
      | succ d ih =>
        intro e K S1 h1 h2 h3 hT1 x4 x6 x22 xs xe
        obtain ⟨K, rfl⟩ : ∃ k', K = k' + 1 := ⟨K - 1, by omega⟩
        have hy : isD (b e) = true := by
          by_cases e9 : e = p
          · rw [e9]; exact hd0
          · exact re_in (Q := isD) (b := b) (n := n) (p := p + 1) (by omega) (by omega) (by rw [← hen]; omega)
        have hk1 : kd b n e = 1 := kd_1.mpr ⟨by omega, hy⟩
        have c9 : 48 ≤ b e ∧ b e ≤ 57 := by unfold isD at hy; simp at hy; exact hy
        have hmin := dv_min b p 100000 (by decide) (e - p)
        rw [show p + (e - p) = e by omega, show e - p + 1 = e + 1 - p by omega] at hmin
        have hcb : cb b n e = nI (b e) := by unfold cb; rw [if_pos (by omega)]
        have hless : fX7_less 100000 (((10 : Int32) * nI (min (dv b p (e - p)) 100000)) + nI (b e) - 48) (qH A S1) = some (.inl (some (.int (nI (min (dv b p (e + 1 - p)) 100000)))), qH A S1) := by
          rw [← hmin, show (10 : Int32) = nI 10 from rfl, pk_mul, nI_add, show (48 : Int32) = nI 48 from rfl, pk_sub (by omega), show (100000 : Int32) = nI 100000 from rfl]
          unfold fX7_less
          by_cases c : 10 * min (dv b p (e - p)) 100000 + b e - 48 ≤ 100000
          · rw [if_pos (by rw [nI_leI (by omega) (by decide)]; exact c), show min (10 * min (dv b p (e - p)) 100000 + (b e - 48)) 100000 = 10 * min (dv b p (e - p)) 100000 + b e - 48 by omega]
          · rw [if_neg (by rw [nI_leI (by omega) (by decide)]; exact c), show min (10 * min (dv b p (e - p)) 100000 + (b e - 48)) 100000 = 100000 by omega]
        rw [fX7_number_40, gi_119_4, q_bs, x4, ob_119, q_cv, m_byteAt hT1 (by omega), q_cal, q_vi, m_dig hb rfl, if_pos hk1, q_cal, q_vi, if_neg (by decide), gi_119_4, q_bs, x4, ob_119, q_cv, m_byteAt hT1 (by omega), q_cal, q_vi, hcb, hless, q_cal, q_vi, gi_119_4, q_bs, x4, nI_1, pi_119_4, q_bs]
        refine ih (e + 1) K (us S1 119 4 (nI (e + 1))) (by omega) (by omega) (by omega) (mt_us hT1 (by decide)) (by rw [us_at, if_pos rfl]) (by rw [us_at, if_neg (by decide)]; exact x6) (by rw [us_at, if_neg (by decide)]; exact x22) (fun e' => by rw [usus]; exact xs e') (fun _ => xs (e + 1))
    have k0 := key (en b n p - p) p FU (us (us S 119 4 (nI p)) 119 22 (nI p)) (by omega) (by unfold FU; omega) (Nat.le_refl _) (mt_us (mt_us hT (by decide)) (by decide)) (by rw [us_at, if_neg (by decide)]; exact h41) (by rw [us_at, if_neg (by decide)]; exact h61) (by rw [us_at, if_pos rfl]) sw (fun h => by omega)
    rw [Nat.sub_self] at k0
    exact k0
  · rw [if_neg c1, if_neg c1, if_pos rfl, gi_119_4, q_bs, h41, ob_119, q_cv, m_wrong1 (k := 1) (k9 := 1) h61 rfl, q_cal, q_vn]
theorem m_opens (hT : MT b n S) (h4 : S.1 119 4 = nI a) (ha : a ≤ n) (h6 : S.1 119 6 = 0) {d : Nat} (hd : d ≤ 4) (h23 : S.1 119 23 = nI d) (N : Nat) :
    ∃ S', fX7_opens 119 (qH A S) = some (.inl none, qH A S') ∧ frm N S S' ∧ S'.2 = S.2 ∧ S'.1 119 23 = nI (d + 1) ∧ ((kd b n (sk b n a) = 40 ∧ d < 4 ∧ S'.1 119 6 = 0 ∧ S'.1 119 4 = nI (en b n (sk b n a))) ∨ (kd b n (sk b n a) = 40 ∧ d = 4 ∧ S'.1 119 6 = nI 4 ∧ S'.1 119 7 = nI (sk b n a)) ∨ (kd b n (sk b n a) ≠ 40 ∧ S'.1 119 6 = nI 1 ∧ S'.1 119 7 = nI (sk b n a))) := by
  have hp := sk_le (b := b) ha
  let S1 := us S 119 4 (nI (sk b n a))
  have hT1 : MT b n S1 := mt_us hT (by decide)
  have h41 : S1.1 119 4 = nI (sk b n a) := by show (us _ _ _ _).1 119 4 = _; rw [us_at, if_pos rfl]
  have h61 : S1.1 119 6 = 0 := by show (us _ _ _ _).1 119 6 = _; rw [us_at, if_neg (by decide)]; exact h6
  have h231 : S1.1 119 23 = nI d := by show (us _ _ _ _).1 119 23 = _; rw [us_at, if_neg (by decide)]; exact h23
  have f1 : frm N S S1 := frm.us (by decide)
  unfold fX7_opens
  rw [ob_119, q_cv, m_here hT h4 ha, q_cal, q_vi]
  by_cases c : kd b n (sk b n a) = 40
  · rw [if_pos (show cb b n (sk b n a) = (40 : Int32) from (cb_eq (c := 40) hT.2.1 (by decide)).mpr ((kd_g (by decide)).mp c)), gi_119_23, q_bs]
    rw [show (us S 119 4 (nI (sk b n a))).1 119 23 = nI d from h231]
    by_cases c4 : d = 4
    · rw [if_pos (by rw [c4]; rfl), gi_119_4, q_bs]
      rw [show (us S 119 4 (nI (sk b n a))).1 119 4 = nI (sk b n a) from h41, ob_119, q_cv, m_wrong1 (k := 4) (k9 := 4) h61 rfl, q_cal, q_vn]
      obtain ⟨w1, w2, w3, w4⟩ := wr_v (S := S1) (k := 4) (p := sk b n a)
      unfold fX7_opens_26
      rw [ob_119, q_cv]
      rw [show fX7_must 119 40 (qH A (wrS (us S 119 4 (nI (sk b n a))) 4 (sk b n a))) = _ from m_must0 (k := 4) w1 (by decide) (by decide) 40, q_cal, q_vn, gi_119_23, q_bs]
      rw [show (wrS (us S 119 4 (nI (sk b n a))) 4 (sk b n a)).1 119 23 = nI d from (w3 23 (by decide) (by decide)).trans h231, nI_1, pi_119_23, q_bs]
      refine ⟨_, rfl, (f1.tr (wr_frm (by decide)) (Nat.le_refl _)).tr (frm.us (by decide)) (Nat.le_refl _), rfl, by rw [us_at, if_pos rfl], Or.inr (Or.inl ⟨c, c4, ?_, ?_⟩)⟩
      · rw [us_at, if_neg (by decide)]; exact w1
      · rw [us_at, if_neg (by decide)]; exact w2
    · rw [if_neg (by rw [qlit, nI_eq (by omega) (by decide)]; exact c4)]
      unfold fX7_opens_26
      have hm := m_must (A := A) (c := 40) (c9 := 40) hT1 h41 hp h61 (by decide) rfl
      rw [sk_id, if_pos c] at hm
      rw [ob_119, q_cv]
      rw [show fX7_must 119 40 (qH A (us S 119 4 (nI (sk b n a)))) = _ from hm, q_cal, q_vn, gi_119_23, q_bs]
      rw [show (us S1 119 4 (nI (en b n (sk b n a)))).1 119 23 = nI d from by rw [us_at, if_neg (by decide)]; exact h231, nI_1, pi_119_23, q_bs]
      refine ⟨_, rfl, (f1.tr (frm.us (by decide)) (Nat.le_refl _)).tr (frm.us (by decide)) (Nat.le_refl _), rfl, by rw [us_at, if_pos rfl], Or.inl ⟨c, by omega, ?_, ?_⟩⟩
      · rw [us_at, if_neg (by decide), us_at, if_neg (by decide)]; exact h61
      · rw [us_at, if_neg (by decide), us_at, if_pos rfl]
  · rw [if_neg (show ¬ cb b n (sk b n a) = (40 : Int32) from fun h => c ((kd_g (by decide)).mpr ((cb_eq (c := 40) hT.2.1 (by decide)).mp h)))]
    unfold fX7_opens_26
    have hm := m_must (A := A) (c := 40) (c9 := 40) hT1 h41 hp h61 (by decide) rfl
    rw [sk_id, if_neg c] at hm
    obtain ⟨w1, w2, w3, w4⟩ := wr_v (S := us S1 119 4 (nI (sk b n a))) (k := 1) (p := sk b n a)
    rw [ob_119, q_cv]
    rw [show fX7_must 119 40 (qH A (us S 119 4 (nI (sk b n a)))) = _ from hm, q_cal, q_vn, gi_119_23, q_bs]
    rw [show (wrS (us S1 119 4 (nI (sk b n a))) 1 (sk b n a)).1 119 23 = nI d from (w3 23 (by decide) (by decide)).trans (by rw [us_at, if_neg (by decide)]; exact h231), nI_1, pi_119_23, q_bs]
    refine ⟨_, rfl, ((f1.tr (frm.us (by decide)) (Nat.le_refl _)).tr (wr_frm (by decide)) (Nat.le_refl _)).tr (frm.us (by decide)) (Nat.le_refl _), rfl, by rw [us_at, if_pos rfl], Or.inr (Or.inr ⟨c, ?_, ?_⟩)⟩
    · rw [us_at, if_neg (by decide)]; exact w1
    · rw [us_at, if_neg (by decide)]; exact w2
theorem m_opens0 (hT : MT b n S) (h4 : S.1 119 4 = nI a) (ha : a ≤ n) {k : Nat} (h : S.1 119 6 = nI k) (h0 : 0 < k) (h5 : k < 5) {d : Nat} (h23 : S.1 119 23 = nI d) (N : Nat) :
    ∃ S', fX7_opens 119 (qH A S) = some (.inl none, qH A S') ∧ frm N S S' ∧ S'.2 = S.2 ∧ S'.1 119 23 = nI (d + 1) ∧ S'.1 119 6 = nI k ∧ S'.1 119 7 = S.1 119 7 := by
  let S1 := us S 119 4 (nI (sk b n a))
  have h61 : S1.1 119 6 = nI k := by show (us _ _ _ _).1 119 6 = _; rw [us_at, if_neg (by decide)]; exact h
  have h231 : S1.1 119 23 = nI d := by show (us _ _ _ _).1 119 23 = _; rw [us_at, if_neg (by decide)]; exact h23
  have h26 : fX7_opens_26 119 (qH A S1) = some (.inl none, qH A (us S1 119 23 (nI (d + 1)))) := by
    unfold fX7_opens_26
    rw [ob_119, q_cv, m_must0 h61 h0 h5, q_cal, q_vn, gi_119_23, q_bs, h231, nI_1, pi_119_23, q_bs]
  refine ⟨us S1 119 23 (nI (d + 1)), ?_, (frm.us (by decide)).tr (frm.us (by decide)) (Nat.le_refl _), rfl, by rw [us_at, if_pos rfl], by rw [us_at, if_neg (by decide)]; exact h61, by rw [us_at, if_neg (by decide)]; show (us _ _ _ _).1 119 7 = _; rw [us_at, if_neg (by decide)]⟩
  unfold fX7_opens
  rw [ob_119, q_cv, m_here hT h4 ha, q_cal, q_vi]
  split
  · rw [gi_119_23, q_bs]
    split
    · rw [gi_119_4, q_bs, ob_119, q_cv]
      rw [show fX7_wrong 119 4 _ (qH A (us S 119 4 (nI (sk b n a)))) = _ from m_wrong0 h61 h0 h5 4 _, q_cal, q_vn]
      exact h26
    · exact h26
  · exact h26
theorem m_closes (hT : MT b n S) (h4 : S.1 119 4 = nI a) (ha : a ≤ n) (h6 : S.1 119 6 = 0) {d : Nat} (h23 : S.1 119 23 = nI (d + 1)) (N : Nat) :
    ∃ S', fX7_closes 119 (qH A S) = some (.inl none, qH A S') ∧ frm N S S' ∧ S'.2 = S.2 ∧ S'.1 119 23 = nI d ∧ ((kd b n (sk b n a) = 41 ∧ S'.1 119 6 = 0 ∧ S'.1 119 4 = nI (en b n (sk b n a))) ∨ (kd b n (sk b n a) ≠ 41 ∧ S'.1 119 6 = nI 1 ∧ S'.1 119 7 = nI (sk b n a))) := by
  have hm := m_must (A := A) (c := 41) (c9 := 41) hT h4 ha h6 (by decide) rfl
  have e1 : nI (d + 1) - 1 = nI d := by
    have := pk_sub (a := d + 1) (b := 1) (by omega)
    rw [Nat.add_sub_cancel] at this
    exact this
  unfold fX7_closes
  rw [ob_119, q_cv, hm]
  by_cases c : kd b n (sk b n a) = 41
  · rw [if_pos c, q_cal, q_vn, gi_119_23, q_bs, us_at, if_neg (by decide), h23, e1, pi_119_23, q_bs]
    refine ⟨_, rfl, (frm.us (by decide)).tr (frm.us (by decide)) (Nat.le_refl _), rfl, by rw [us_at, if_pos rfl], Or.inl ⟨c, ?_, ?_⟩⟩
    · rw [us_at, if_neg (by decide), us_at, if_neg (by decide)]; exact h6
    · rw [us_at, if_neg (by decide), us_at, if_pos rfl]
  · obtain ⟨w1, w2, w3, w4⟩ := wr_v (S := us S 119 4 (nI (sk b n a))) (k := 1) (p := sk b n a)
    rw [if_neg c, q_cal, q_vn, gi_119_23, q_bs, w3 23 (by decide) (by decide), us_at, if_neg (by decide), h23, e1, pi_119_23, q_bs]
    refine ⟨_, rfl, ((frm.us (by decide)).tr (wr_frm (by decide)) (Nat.le_refl _)).tr (frm.us (by decide)) (Nat.le_refl _), rfl, by rw [us_at, if_pos rfl], Or.inr ⟨c, ?_, ?_⟩⟩
    · rw [us_at, if_neg (by decide)]; exact w1
    · rw [us_at, if_neg (by decide)]; exact w2
theorem m_closes0 {k : Nat} (h : S.1 119 6 = nI k) (h0 : 0 < k) (h5 : k < 5) {d : Nat} (h23 : S.1 119 23 = nI (d + 1)) : fX7_closes 119 (qH A S) = some (.inl none, qH A (us S 119 23 (nI d))) := by
  have e1 : nI (d + 1) - 1 = nI d := by
    have := pk_sub (a := d + 1) (b := 1) (by omega)
    rw [Nat.add_sub_cancel] at this
    exact this
  unfold fX7_closes
  rw [ob_119, q_cv, m_must0 h h0 h5, q_cal, q_vn, gi_119_23, q_bs, h23, e1, pi_119_23, q_bs]
theorem m_row {f : Nat} (hf : f < nF) (hz : S.1 119 15 = nI (qF f)) (hA : 271 ≤ A.1) {v : Int32} {g : Nat → Nat} (hg : ∀ x, x < qF f → (if v = -1 then nI x else v) = nI (g x)) : fX7_row 119 v (qH A S) = some (.inl (some (.ref A.1)), qH (qN A) (uA S A.1 (fa_fill (fun x => nI (g x)) (fun _ => 0) (qF f)))) := by
  have hq := qz hf
  have lr : qL (qN A) A.1 64 := ⟨by decide, Or.inr ⟨hA, by show (if A.1 = A.1 then none else _) = none; rw [if_pos rfl], rfl⟩⟩
  unfold fX7_row
  rw [q_new hA, q_b2]
  have h := loopF0 (fun k x s => fX7_row_7 k 119 v A.1 (nI x) (qH (qN A) s)) (qF f) (fun x => uA S A.1 (fa_fill (fun x => nI (g x)) (fun _ => 0) x)) (some (.inl (some (.ref A.1)), qH (qN A) (uA S A.1 (fa_fill (fun x => nI (g x)) (fun _ => 0) (qF f))))) (by omega) ?_ ?_
  · rw [fa_fill_0] at h
    exact h
  · intro k x hx
    show fX7_row_7 (k + 1) 119 v A.1 (nI x) (qH (qN A) _) = _
    have hg9 := hg x hx
    rw [fX7_row_7, gi_119_15, q_bs, uA_s, hz, if_neg (by rw [nI_leI (by omega) (by omega)]; omega)]
    unfold fX7_row_27
    rw [q_si lr (by omega), q_si lr (by omega), q_bs, q_bs, uaA, uaA, nI_1]
    have e9 : ∀ w, w = nI (g x) → upd (fa_fill (fun x => nI (g x)) (fun _ => 0) x) x w = fa_fill (fun x => nI (g x)) (fun _ => 0) (x + 1) := fun w hw => by rw [hw]; exact fa_fill_succ (fun x => nI (g x)) (fun _ => 0) x
    by_cases c : v = -1
    · rw [if_pos c] at hg9 ⊢
      rw [e9 _ hg9]
    · rw [if_neg c] at hg9 ⊢
      rw [e9 _ hg9]
  · intro k
    show fX7_row_7 (k + 1) 119 v A.1 (nI (qF f)) (qH (qN A) _) = _
    rw [fX7_row_7, gi_119_15, q_bs, uA_s, hz, if_pos (by rw [nI_leI (by omega) (by omega)]; exact Nat.le_refl _)]
end QTM
