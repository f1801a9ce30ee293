/-! the reference's questions answer as told -/
def tcA (e : Nat) : Nat := e + 1
def tcB (e : Nat) : Nat := if e = 2 then 2 else 1
def tcC (_ : Nat) : Nat := 1
theorem oRow_oP {G : GS} {x : Int32} {v : Nat → Value} : oRow G x v = oP G x (fun p => (.inr (v p), G)) := rfl
section QMQ
variable {A : AS} {S : SS} {G : GS} {T : Nat → Nat} {z0 : Value}
theorem om_at (h : MI G S) (x y : Int32) : mOK tcA (.int 0) A S (fX7_at 119 x y (qH A S)) (oP G x fun p => oQ G y fun u => (.inr (.int (nI (G.1.2.2 p u))), G)) := by
  unfold fX7_at fX7_at_21 fX7_at_26
  refine d_B h (fun S1 hB => ?_)
  refine d_P hB x (d_yes (w := 1) (j := 0) hB rfl rfl (by decide) (by decide) rfl) (fun p hp e => ?_)
  refine d_Q hB y (d_yes (w := 1) (j := 0) hB rfl rfl (by decide) (by decide) rfl) (fun u hu e2 => d_no hB ?_)
  subst e; subst e2
  obtain ⟨r1, r2⟩ := mb_now hB hp
  refine d_ret hB ?_
  rw [ob_119, q_cv, m_at hB.1.2.1.1 r2 r1 hu, q_cal, q_vi]
theorem om_taken (h : MI G S) (x y : Int32) : mOK tcA (.int 0) A S (fX7_taken 119 x y (qH A S)) (oP G x fun p => oQ G y fun u => (.inr (.int (nI (cnV (qF G.1.1) (G.1.2.2 p) u))), G)) := by
  have hq := qz h.2.1.1
  unfold fX7_taken fX7_taken_21 fX7_taken_26
  refine d_B h (fun S1 hB => ?_)
  refine d_P hB x (d_yes (w := 1) (j := 0) hB rfl rfl (by decide) (by decide) rfl) (fun p hp e => ?_)
  refine d_Q hB y (d_yes (w := 1) (j := 0) hB rfl rfl (by decide) (by decide) rfl) (fun u hu e2 => d_no hB ?_)
  subst e; subst e2
  obtain ⟨r1, r2⟩ := mb_now hB hp
  refine d_ret hB ?_
  rw [ob_119, q_cv, m_taken hB.1.2.1.1 hB.2.1.2.2.2.2.2.2.1 r2 r1 (by omega), q_cal, q_vi]
theorem om_image (h : MI G S) (x : Int32) : mOK tcA (.int 0) A S (fX7_image 119 x (qH A S)) (oRow G x (fun p => .int (nI (img (qF G.1.1) (G.1.2.2 p))))) := by
  unfold fX7_image fX7_image_18
  rw [oRow_oP]
  refine d_B h (fun S1 hB => ?_)
  refine d_P hB x (d_yes (w := 1) (j := 0) hB rfl rfl (by decide) (by decide) rfl) (fun p hp e => d_no hB ?_)
  subst e
  obtain ⟨r1, r2⟩ := mb_now hB hp
  refine d_ret hB ?_
  rw [ob_119, q_cv, m_image hB.1.2.1.1 hB.2.1.2.2.2.2.2.2.1 r2 r1, q_cal, q_vi]
theorem om_permutes (h : MI G S) (x : Int32) : mOK tcA (.int 0) A S (fX7_permutes 119 x (qH A S)) (oRow G x (fun p => .int (if pmB (qF G.1.1) (G.1.2.2 p) = true then 1 else 0))) := by
  unfold fX7_permutes fX7_permutes_18
  rw [oRow_oP]
  refine d_B h (fun S1 hB => ?_)
  refine d_P hB x (d_yes (w := 1) (j := 0) hB rfl rfl (by decide) (by decide) rfl) (fun p hp e => d_no hB ?_)
  subst e
  obtain ⟨r1, r2⟩ := mb_now hB hp
  refine d_ret hB ?_
  rw [ob_119, q_cv, m_perm hB.1.2.1.1 hB.2.1.2.2.2.2.2.2.1 r2 r1, q_cal, q_vi]
  by_cases c : pmB (qF G.1.1) (G.1.2.2 p) = true
  · rw [if_neg (by rw [q_pm0]; exact fun h => h c), if_pos c]
  · rw [if_pos (by rw [q_pm0]; exact c), if_neg c]
theorem om_spread (h : MI G S) (x : Int32) : mOK tcA (.int 0) A S (fX7_spread 119 x (qH A S)) (oRow G x (fun p => .int (nI (spF G.1.1 (G.1.2.2 p) (qF G.1.1 - 1))))) := by
  unfold fX7_spread fX7_spread_18
  rw [oRow_oP]
  refine d_B h (fun S1 hB => ?_)
  refine d_P hB x (d_yes (w := 1) (j := 0) hB rfl rfl (by decide) (by decide) rfl) (fun p hp e => d_no hB ?_)
  subst e
  obtain ⟨r1, r2⟩ := mb_now hB hp
  exact d_ret hB (m_spread hB.1.2.1.1 hB.2.1 r2 r1)
theorem om_degree (h : MI G S) (x : Int32) : mOK tcA (.int 0) A S (fX7_degree 119 x (qH A S)) (oRow G x (fun p => .int (dgF G.1.1 (G.1.2.2 p) (qF G.1.1 - 1)))) := by
  have hq := qz h.2.1.1
  unfold fX7_degree fX7_degree_18
  rw [oRow_oP]
  refine d_B h (fun S1 hB => ?_)
  refine d_P hB x (d_yes (w := 1) (j := 0) hB rfl rfl (by decide) (by decide) rfl) (fun p hp e => d_no hB ?_)
  subst e
  obtain ⟨r1, r2⟩ := mb_now hB hp
  have hX : eqo (fun b => b = 266) S1 (uA S1 266 (fa_fill (fun x => nI (G.1.2.2 p x)) (S1.2.1 266) (qF G.1.1))) := eqo.uA (X := fun b => b = 266) rfl
  have hB2 := mb_eqo hB hX (fun b (hb : b = 266) => by omega)
  have hr : rowR G.1.1 (uA S1 266 (fa_fill (fun x => nI (G.1.2.2 p x)) (S1.2.1 266) (qF G.1.1))) 266 (G.1.2.2 p) := rowR.fill (fun x hx => (r1 x hx).2)
  have e1 : nI (qF G.1.1) - 1 = nI (qF G.1.1 - 1) := pk_sub (b := 1) (by omega)
  refine d_ret2 hB hX (fun b (hb : b = 266) => by omega) ?_
  rw [ob_119, q_cv, m_takes hB.1.2.1.1 hB.2.1.2.2.2.2.2.2.1 r2 r1, q_cal, q_vn, gi_119_15, q_bs, hB2.2.1.2.2.2.2.2.2.1, e1]
  exact m_deg hB.1.2.1.1 hB2.2.1 hr (qF G.1.1 - 1) FU (by omega) (by unfold FU; omega)
theorem om_coef (h : MI G S) (x y : Int32) : mOK tcA (.int 0) A S (fX7_coefficient 119 x y (qH A S)) (oP G x fun p => oN G 0 (qF G.1.1 - 1) y fun k => (.inr (.int (nI (if k = 0 then G.1.2.2 p 0 else ng G.1.1 (cfF G.1.1 (G.1.2.2 p) k)))), G)) := by
  have hq := qz h.2.1.1
  have e1 : nI (qF G.1.1) - 1 = nI (qF G.1.1 - 1) := pk_sub (b := 1) (by omega)
  unfold fX7_coefficient fX7_coefficient_18 fX7_coefficient_48
  refine d_B h (fun S1 hB => ?_)
  refine d_P hB x (d_yes (w := 1) (j := 0) hB rfl rfl (by decide) (by decide) rfl) (fun p hp e => d_no hB ?_)
  subst e
  obtain ⟨r1, r2⟩ := mb_now hB hp
  rw [gi_119_15, q_bs, hB.2.1.2.2.2.2.2.2.1, e1]
  refine d_N (lo := 0) (hi := qF G.1.1 - 1) y rfl rfl (by omega) (by omega) (d_yes (w := 2) (j := 1) hB rfl rfl (by decide) (by decide) rfl) (fun k k1 k2 e => d_no hB ?_)
  subst e
  have hX : eqo (fun b => b = 266) S1 (uA S1 266 (fa_fill (fun x => nI (G.1.2.2 p x)) (S1.2.1 266) (qF G.1.1))) := eqo.uA (X := fun b => b = 266) rfl
  have hB2 := mb_eqo hB hX (fun b (hb : b = 266) => by omega)
  have hr : rowR G.1.1 (uA S1 266 (fa_fill (fun x => nI (G.1.2.2 p x)) (S1.2.1 266) (qF G.1.1))) 266 (G.1.2.2 p) := rowR.fill (fun x hx => (r1 x hx).2)
  refine d_ret2 hB hX (fun b (hb : b = 266) => by omega) ?_
  rw [ob_119, q_cv, m_takes hB.1.2.1.1 hB.2.1.2.2.2.2.2.2.1 r2 r1, q_cal, q_vn, ob_119, q_cv, m_coef hB.1.2.1.1 hB2.2.1 hr (by omega), q_cal, q_vi]
theorem om_powers (h : MI G S) (x : Int32) : mOK tcA (.int 0) A S (fX7_powers 119 x (qH A S)) (oRow G x (fun p => .int (if cnV (qF G.1.1) (G.1.2.2 p) 0 = 1 then pwsF G.1.1 (G.1.2.2 p) (qF G.1.1 - 2) 1 else 0))) := by
  have hq := qz h.2.1.1
  unfold fX7_powers fX7_powers_18
  rw [oRow_oP]
  refine d_B h (fun S1 hB => ?_)
  refine d_P hB x (d_yes (w := 1) (j := 0) hB rfl rfl (by decide) (by decide) rfl) (fun p hp e => d_no hB ?_)
  subst e
  obtain ⟨r1, r2⟩ := mb_now hB hp
  have hc : cnV (qF G.1.1) (G.1.2.2 p) 0 ≤ qF G.1.1 := fb_ct_le _ _
  rw [show (0 : Int32) = nI 0 from rfl, ob_119, q_cv, m_taken hB.1.2.1.1 hB.2.1.2.2.2.2.2.2.1 r2 r1 (by decide), q_cal, q_vi]
  show mOK tcA (.int 0) A S1 _ (.inr (.int (if cnV (qF G.1.1) (G.1.2.2 p) 0 = 1 then pwsF G.1.1 (G.1.2.2 p) (qF G.1.1 - 2) 1 else 0)), G)
  by_cases c : cnV (qF G.1.1) (G.1.2.2 p) 0 = 1
  · obtain ⟨S', a1, a2⟩ := m_pow (A := A) (R := G.1.2.2 p) hB.1.2.1.1 r2 (qF G.1.1 - 2) 1 FU S1 (by omega) (by omega) (by unfold FU; omega) hB.2.1 r1
    rw [if_pos (by rw [c]; rfl), if_pos c]
    exact d_ret2 hB a2 (fun b (hb : b = 266) => by omega) a1
  · rw [if_neg (by rw [qlit, nI_eq (by omega) (by decide)]; exact c), if_neg c]
    exact d_ret hB rfl
theorem om_mono (h : MI G S) : mOK tcA (.int 0) A S (fX7_monomials 119 (qH A S)) (.inr (.long (lN (bst (fun m => pmB (qF G.1.1) (fun x => pw G.1.1 x m)) (qF G.1.1 - 1)))), G) := by
  unfold fX7_monomials
  refine d_B h (fun S1 hB => ?_)
  obtain ⟨S', a1, a2⟩ := m_mono (A := A) hB.1.2.1.1 hB.2.1
  exact d_ret2 hB a2 (fun b (hb : b = 266) => by omega) a1
theorem om_dick (h : MI G S) (x : Int32) : mOK tcA (.long 0) A S (fX7_dicksons 119 x (qH A S)) (oQ G x fun a => (.inr (.long (lN (bst (fun m => pmB (qF G.1.1) (fun x => dk G.1.1 a x m)) 63))), G)) := by
  unfold fX7_dicksons fX7_dicksons_18
  refine d_B h (fun S1 hB => ?_)
  refine d_Q hB x (d_yes (w := 1) (j := 0) hB rfl rfl (by decide) (by decide) rfl) (fun a ha e => d_no hB ?_)
  subst e
  obtain ⟨S', a1, a2⟩ := m_dick (A := A) hB.1.2.1.1 hB.2.1 ha
  exact d_ret2 hB a2 (fun b (hb : b = 266) => by omega) a1
theorem om_bin (h : MI G S) (x : Int32) : mOK tcC (.int 0) A S (fX7_binomials 119 x (qH A S)) (oN G 2 63 x fun n => (.inr (.int (nI (fb_ct (fun a => pmB (qF G.1.1) (fun x => ad G.1.1 (pw G.1.1 x n) (mu G.1.1 a x))) (qF G.1.1)))), G)) := by
  unfold fX7_binomials fX7_binomials_24
  refine d_B h (fun S1 hB => ?_)
  refine d_N (lo := 2) (hi := 63) x rfl rfl (by decide) (by decide) (d_yes (w := 1) (j := 1) hB rfl rfl (by decide) (by decide) rfl) (fun n n1 n2 e => d_no hB ?_)
  subst e
  obtain ⟨S', a1, a2⟩ := m_bin (A := A) (n := n) hB.1.2.1.1 hB.2.1 (by omega)
  exact d_ret2 hB a2 (fun b (hb : b = 266) => by omega) a1
theorem om_print (h : MI G S) : mOK tcA (.int 0) A S (fX7_print 119 (qH A S)) (.inr (.long (prP (qF G.1.1) G.1.2.2 G.1.2.1)), G) := by
  unfold fX7_print
  refine d_B h (fun S1 hB => ?_)
  exact d_ret hB (m_print hB.1.2.1.1 hB.2.1.2.2.2.2.2.2.1 hB.1.2.1.2.2.2.2.1 hB.1.2.1.2.2.2.1 (fun i hi => (mb_now hB hi).1))
theorem om_told (h : MI G S) (x : Int32) : mOK tcC (.int 0) A S (fX7_told 119 x (qH A S)) (oN G 0 6 x fun n => (.inr (.int (nI (tdV G n))), G)) := by
  unfold fX7_told fX7_told_22
  refine d_B h (fun S1 hB => ?_)
  refine d_N (lo := 0) (hi := 6) x rfl rfl (by decide) (by decide) (d_yes (w := 1) (j := 1) hB rfl rfl (by decide) (by decide) rfl) (fun n n1 n2 e => d_no hB ?_)
  obtain ⟨t1, t2, t3, t4⟩ := hB.2.1.2.2.2.2
  refine d_ret hB ?_
  unfold tdV
  subst e
  by_cases c0 : n = 0
  · rw [if_pos (by rw [c0]; rfl), if_pos c0, gi_119_15, q_bs, t3]
  rw [if_neg (by rw [qlit, nI_eq (by omega) (by decide)]; exact c0), if_neg c0]
  by_cases c1 : n = 1
  · rw [if_pos (by rw [c1]; rfl), if_pos c1, gi_119_13, q_bs, t1]
  rw [if_neg (by rw [qlit, nI_eq (by omega) (by decide)]; exact c1), if_neg c1]
  by_cases c2 : n = 2
  · rw [if_pos (by rw [c2]; rfl), if_pos c2, gi_119_14, q_bs, t2]
  rw [if_neg (by rw [qlit, nI_eq (by omega) (by decide)]; exact c2), if_neg c2]
  by_cases c3 : n = 3
  · rw [if_pos (by rw [c3]; rfl), if_pos c3, gi_119_16, q_bs, t4]
  rw [if_neg (by rw [qlit, nI_eq (by omega) (by decide)]; exact c3), if_neg c3]
  by_cases c4 : n = 4
  · rw [if_pos (by rw [c4]; rfl), if_pos c4, gr_119_9, q_bs, show (2 : Int32) = nI 2 from rfl, q_ai ql_122 (by decide), q_bs, hB.1.2.1.2.2.2.1]
  rw [if_neg (by rw [qlit, nI_eq (by omega) (by decide)]; exact c4), if_neg c4]
  by_cases c5 : n = 5
  · rw [if_pos (by rw [c5]; rfl), if_pos c5, gi_119_2, q_bs, hB.1.2.2.2.1.2.1]
  rw [if_neg (by rw [qlit, nI_eq (by omega) (by decide)]; exact c5), if_neg c5, gi_119_12, q_bs, hB.1.2.2.1.2.1]
theorem om_points (h : MI G S) (x y w : Int32) : mOK tcA (.int 0) A S (fX7_points 119 x y w (qH A S)) (oQ G x fun a => oQ G y fun b => oN G 0 3 w fun n => (.inr (.int (ptV G.1.1 a b n)), G)) := by
  have hq := qz h.2.1.1
  unfold fX7_points fX7_points_21 fX7_points_26 fX7_points_52
  refine d_B h (fun S1 hB => ?_)
  refine d_Q hB x (d_yes (w := 1) (j := 0) hB rfl rfl (by decide) (by decide) rfl) (fun a ha e => ?_)
  refine d_Q hB y (d_yes (w := 1) (j := 0) hB rfl rfl (by decide) (by decide) rfl) (fun b hb e2 => d_no hB ?_)
  refine d_N (lo := 0) (hi := 3) w rfl rfl (by decide) (by decide) (d_yes (w := 2) (j := 1) hB rfl rfl (by decide) (by decide) rfl) (fun n n1 n2 e3 => d_no hB ?_)
  subst e; subst e2; subst e3
  have hf := hB.1.2.1.1
  obtain ⟨s1, s2⟩ := tm_s (A := A) hf hB.2.1 ha hb
  obtain ⟨p1, p2⟩ := tm_p (A := A) hf hB.2.1 ha hb
  refine d_ret hB ?_
  unfold ptV
  by_cases c0 : n = 0
  · rw [if_pos (by rw [c0]; rfl), if_pos c0, gr_119_17, q_bs, s1, q_bs, s2, q_bs]
  rw [if_neg (by rw [qlit, nI_eq (by omega) (by decide)]; exact c0), if_neg c0]
  by_cases c1 : n = 1
  · rw [if_pos (by rw [c1]; rfl), if_pos c1, ob_119, q_cv, m_apart hf hB.2.1 ha hb, q_cal, q_vi]
  rw [if_neg (by rw [qlit, nI_eq (by omega) (by decide)]; exact c1), if_neg c1]
  by_cases c2 : n = 2
  · rw [if_pos (by rw [c2]; rfl), if_pos c2, gr_119_18, q_bs, p1, q_bs, p2, q_bs]
  rw [if_neg (by rw [qlit, nI_eq (by omega) (by decide)]; exact c2), if_neg c2]
  by_cases c3 : b = 0
  · rw [if_pos (by rw [c3]; rfl), if_pos c3]
  · obtain ⟨q1, q2⟩ := tm_p (A := A) hf hB.2.1 ha (iv_lt hf hb)
    rw [if_neg (by rw [qlit, nI_eq (by omega) (by decide)]; exact c3), if_neg c3, gr_119_18, q_bs, q1, q_bs, gr_119_20, q_bs, q_ai ql_264 (by omega), q_bs, hB.2.1.2.2.2.1 b hb c3, q2, q_bs]
theorem om_status (h : MI G S) (x : Int32) : mOK tcA (.int 0) A S (fX7_status 119 x (qH A S)) (.inr (.int (if okI 3 x = true then G.2.2.2.1 x.toNatClampNeg else -1)), G) := by
  refine ⟨us S 119 0 0, mi_0 h, eqo.us (by decide), by rw [us_at, if_pos rfl], ?_⟩
  unfold fX7_status
  have hin := m_isN (A := A) (S := us S 119 0 0) (x := x) (l := 0) (h9 := 2) (lo := 0) (hi := 2) rfl rfl (by decide) (by decide)
  rw [pi_119_0, q_bs]
  by_cases c : okI 3 x = true
  · obtain ⟨p, p1, rfl⟩ := ok_iff.mp c
    rw [if_pos ⟨c, Nat.zero_le _⟩] at hin
    rw [hin, q_cal, q_vi, if_neg (by decide), gr_119_1, q_bs, q_ai ql_120 p1, q_bs, us_r, h.2.2.2.2.1 p p1, if_pos c, nI_clamp (by omega)]
  · rw [if_neg (fun h => c h.1)] at hin
    rw [hin, q_cal, q_vi, if_pos rfl, if_neg c]
theorem om_fault (h : MI G S) : mOK tcA (.int 0) A S (fX7_fault 119 (qH A S)) (.inr (.int G.2.2.2.2), G) := by
  refine ⟨us S 119 0 0, mi_0 h, eqo.us (by decide), by rw [us_at, if_pos rfl], ?_⟩
  unfold fX7_fault
  rw [pi_119_0, q_bs, gi_119_5, q_bs, us_at, if_neg (by decide), h.2.2.2.2.2]
theorem om_orbit (h : MI G S) (x : Int32) : mOK tcA (.int 0) A S (fX7_orbit 119 x (qH A S)) (oQ G x fun u => (.inr (.int (nI (ctB (rcF (qF G.1.1) G.1.2.1 G.1.2.2 (qF G.1.1) (2 ^ u))))), G)) := by
  have hq := qz h.2.1.1
  unfold fX7_orbit fX7_orbit_18
  refine d_B h (fun S1 hB => ?_)
  refine d_Q hB x (d_yes (w := 1) (j := 0) hB rfl rfl (by decide) (by decide) rfl) (fun u hu e => d_no hB ?_)
  subst e
  have hf := hB.1.2.1.1
  have hW : ∀ i, i < G.1.2.1 → ∀ y, y < qF G.1.1 → G.1.2.2 i y < qF G.1.1 := fun i hi y hy => (hB.1.2.1.2.2.2.2.2 i hi y hy).2
  obtain ⟨S', L, a1, a2, a3, a4⟩ := m_orbits (A := A) (W := G.1.2.2) hf hB.2.1.2.2.2.2.2.2.1 hB.1.2.1.2.2.2.2.1 hB.1.2.1.2.2.2.1 (fun i hi => (mb_now hB hi).1)
  have hB2 := mb_eqo hB a2 (fun b (hb : b = 269) => by omega)
  refine d_ret2 hB a2 (fun b (hb : b = 269) => by omega) ?_
  rw [ob_119, q_cv, a1, q_cal, q_vn, m_orbit36 hf hB2.2.1.2.2.2.2.2.2.1 hu a3]
  have e : fb_ct (fun y => L y == L u) (qF G.1.1) = ctB (rcF (qF G.1.1) G.1.2.1 G.1.2.2 (qF G.1.1) (2 ^ u)) := by
    unfold ctB
    have e9 : 64 = qF G.1.1 + (64 - qF G.1.1) := by omega
    rw [e9, fb_ct_split]
    have z : fb_ct (fun k => (rcF (qF G.1.1) G.1.2.1 G.1.2.2 (qF G.1.1) (2 ^ u)).testBit (qF G.1.1 + k)) (64 - qF G.1.1) = 0 := by
      rw [fb_ct_zero]
      intro k _
      cases hb : (rcF (qF G.1.1) G.1.2.1 G.1.2.2 (qF G.1.1) (2 ^ u)).testBit (qF G.1.1 + k) with
      | false => rfl
      | true =>
        have := Rch.lt hW hu ((rc_bit hW hu _).mp hb)
        omega
    rw [z, Nat.add_zero]
    refine fb_ct_cong (fun k hk => ?_)
    rw [Bool.eq_iff_iff, rc_bit hW hu, a4 u k hu]
    simp only [beq_iff_eq]
    exact ⟨fun h => ⟨hk, h.symm⟩, fun h => h.2.symm⟩
  rw [e]
theorem om_orbits (h : MI G S) : mOK tcA (.int 0) A S (fX7_orbits 119 (qH A S)) (.inr (.int (nI (ofF (qF G.1.1) G.1.2.1 G.1.2.2 (qF G.1.1)))), G) := by
  have hq := qz h.2.1.1
  unfold fX7_orbits
  refine d_B h (fun S1 hB => ?_)
  have hf := hB.1.2.1.1
  have hW : ∀ i, i < G.1.2.1 → ∀ y, y < qF G.1.1 → G.1.2.2 i y < qF G.1.1 := fun i hi y hy => (hB.1.2.1.2.2.2.2.2 i hi y hy).2
  obtain ⟨S', L, a1, a2, a3, a4⟩ := m_orbits (A := A) (W := G.1.2.2) hf hB.2.1.2.2.2.2.2.2.1 hB.1.2.1.2.2.2.2.1 hB.1.2.1.2.2.2.1 (fun i hi => (mb_now hB hi).1)
  have hB2 := mb_eqo hB a2 (fun b (hb : b = 269) => by omega)
  refine d_ret2 hB a2 (fun b (hb : b = 269) => by omega) ?_
  rw [ob_119, q_cv, a1, q_cal, q_vn, m_orbits12 hf hB2.2.1.2.2.2.2.2.2.1 a3]
  have e : fb_ct (fun y => L y == y) (qF G.1.1) = ofF (qF G.1.1) G.1.2.1 G.1.2.2 (qF G.1.1) := by
    unfold ofF
    refine fb_ct_cong (fun z hz => ?_)
    obtain ⟨-, l1, l2⟩ := a3 z hz
    rw [Bool.eq_iff_iff, Bool.not_eq_true', ← Bool.not_eq_true, om_bit hW z z (by omega)]
    simp only [beq_iff_eq]
    constructor
    · rintro e ⟨z', h1, h2⟩
      have h3 := ((a4 z' z (by omega)).mp h2).2
      have h4 := (a3 z' (by omega)).2.1
      omega
    · intro hn
      by_cases c : L z < z
      · exact absurd ⟨L z, c, Rch.sy hW hz l2⟩ hn
      · omega
  rw [e]
def rfS (S : SS) (w j : Nat) : SS := ua (us S 119 0 (nI w)) 120 j (S.2.1 120 j + 1)
theorem d_rf (h : MB G S) {w j e : Nat} (hj : j < 3) (he : T e = w) : mOK T z0 A S (some (.inl (some z0), qH A (rfS S w j))) (.inl e, rfU G j) := by
  have e1 : S.2.1 120 j = G.2.2.2.1 j := h.1.2.2.2.2.1 j hj
  have h2 := mi_ref (j := j) (mi_0 (v := nI w) h.1)
  refine ⟨rfS S w j, by unfold rfS; rw [e1]; exact h2, (eqo.us (by decide)).tr (eqo.ua (by decide)), ?_, rfl⟩
  unfold rfS
  rw [ua_s, us_at, if_pos rfl, he]
theorem m_badPerm (h : MB G S) (x : Int32) (b : Bool) {w : Nat} {w9 : Int32} (hw9 : w9 = nI w) (hw : 0 < w ∧ w < 4) : fX7_badPerm 119 x (if b = true then 1 else 0) w9 (qH A S) = if okI G.1.2.1 x = true then (if b = true then (if pmB (qF G.1.1) (G.1.2.2 x.toNatClampNeg) = true then some (.inl (some (.int 0)), qH A S) else some (.inl (some (.int 1)), qH A (rfS S w 2))) else some (.inl (some (.int 1)), qH A (rfS S 2 1))) else some (.inl (some (.int 1)), qH A (rfS S 1 0)) := by
  subst hw9
  have h5 := h.1.2.1.2.2.2.2.1
  unfold fX7_badPerm fX7_badPerm_14 fX7_badPerm_32 fX7_badPerm_54
  have b1 : ∀ {w j : Nat}, (0 < w ∧ w < 4) → j < 3 → fX7_bad 119 1 (nI w) (nI j) (qH A S) = some (.inl (some (.int 1)), qH A (rfS S w j)) := fun hw hj => m_bad1 h.2.2 hw hj
  rw [ob_119, q_cv, m_isPoly h, q_cal, q_vi]
  by_cases c : okI G.1.2.1 x = true
  · obtain ⟨p, p1, rfl⟩ := ok_iff.mp c
    obtain ⟨r1, r2⟩ := mb_now h p1
    rw [if_pos c, if_pos c, if_neg (by decide), ob_119, q_cv, m_bad0 h.2.2, q_cal, q_vi, if_pos rfl, nI_clamp (by omega)]
    cases b with
    | false =>
      rw [if_pos (by decide), if_neg (by decide), ob_119, q_cv, show fX7_bad 119 1 2 1 (qH A S) = _ from b1 (w := 2) (j := 1) (by decide) (by decide), q_cal, q_vi, if_neg (by decide), z_br1]
    | true =>
      rw [if_neg (by decide), if_pos rfl, ob_119, q_cv, m_bad0 h.2.2, q_cal, q_vi, if_pos rfl, ob_119, q_cv, m_perm h.1.2.1.1 h.2.1.2.2.2.2.2.2.1 r2 r1, q_cal, q_vi]
      by_cases cp : pmB (qF G.1.1) (G.1.2.2 p) = true
      · rw [if_neg (by rw [q_pm0]; exact fun h => h cp), if_pos cp, ob_119, q_cv, m_bad0 h.2.2, q_cal, q_vi, if_pos rfl, z_br0]
      · rw [if_pos (by rw [q_pm0]; exact cp), if_neg cp, ob_119, q_cv, show (2 : Int32) = nI 2 from rfl, b1 (w := w) (j := 2) hw (by decide), q_cal, q_vi, if_neg (by decide), z_br1]
  · rw [if_neg c, if_neg c, if_pos rfl, ob_119, q_cv, show fX7_bad 119 1 1 0 (qH A S) = _ from b1 (w := 1) (j := 0) (by decide) (by decide), q_cal, q_vi, if_neg (by decide), z_br1]
theorem d_BP (h : MB G S) (x : Int32) (b : Bool) {w : Nat} {w9 : Int32} (hw9 : w9 = nI w) (hw : 0 < w ∧ w < 4) (t0 : T 0 = 1) (t1 : b = false → T 1 = 2) (t2 : T 2 = w) {C : AH → RR} {z : Nat → OC} (hC : ∀ p, p < G.1.2.1 → x = nI p → b = true → pmB (qF G.1.1) (G.1.2.2 p) = true → mOK T z0 A S (C (qH A S)) (z p)) : mOK T z0 A S (zcv (zob (qH A S) 119 7) (fX7_badPerm 119 x (if b = true then 1 else 0) w9 (qH A S)) fun v h => zvi v fun x8 => if x8 = 0 then C h else some (.inl (some z0), h)) (oP G x fun p => if b = true then oPm G p (z p) else (.inl 1, rfU G 1)) := by
  have h5 := h.1.2.1.2.2.2.2.1
  unfold oP
  rw [ob_119, q_cv, m_badPerm h x b hw9 hw]
  by_cases c : okI G.1.2.1 x = true
  · obtain ⟨p, p1, rfl⟩ := ok_iff.mp c
    rw [if_pos c, if_pos c, nI_clamp (by omega)]
    cases b with
    | false =>
      show mOK T z0 A S _ (if false = true then oPm G p (z p) else (.inl 1, rfU G 1))
      rw [if_neg (by decide), if_neg (by decide), q_cal, q_vi, if_neg (by decide)]
      exact d_rf h (by decide) (t1 rfl)
    | true =>
      show mOK T z0 A S _ (if true = true then oPm G p (z p) else (.inl 1, rfU G 1))
      rw [if_pos rfl, if_pos rfl]
      unfold oPm
      by_cases cp : pmB (qF G.1.1) (G.1.2.2 p) = true
      · rw [if_pos cp, if_pos cp, q_cal, q_vi, if_pos rfl]
        exact hC p p1 rfl rfl cp
      · rw [if_neg cp, if_neg cp, q_cal, q_vi, if_neg (by decide)]
        exact d_rf h (by decide) t2
  · rw [if_neg c, if_neg c, q_cal, q_vi, if_neg (by decide)]
    exact d_rf h (by decide) t0
theorem om_cycles (h : MI G S) (x y : Int32) : mOK tcA (.int 0) A S (fX7_cycles 119 x y (qH A S)) (oP G x fun p => oN G 0 64 y fun n => oPm G p (.inr (.int (nI (if n = 0 then ctF (qF G.1.1) (G.1.2.2 p) (qF G.1.1) else ccF (qF G.1.1) (G.1.2.2 p) (qF G.1.1) n))), G)) := by
  have hq := qz h.2.1.1
  unfold fX7_cycles
  refine d_B h (fun S1 hB => ?_)
  have hf := hB.1.2.1.1
  rw [m_isN (l := 0) (h9 := 64) (lo := 0) (hi := 64) rfl rfl (by decide) (by decide), q_cal, q_vi]
  by_cases c : okI 65 y = true
  · obtain ⟨n, n1, rfl⟩ := ok_iff.mp c
    have k := d_BP (A := A) (T := tcA) (z0 := .int 0) (w := 3) (z := fun p => (.inr (.int (nI (if n = 0 then ctF (qF G.1.1) (G.1.2.2 p) (qF G.1.1) else ccF (qF G.1.1) (G.1.2.2 p) (qF G.1.1) n))), G)) (C := fun h7 => zcv (zob h7 119 7) (fX7_cyclesOf 119 x (nI n) h7) fun v9 h10 => zvi v9 fun x11 => some (.inl (some (.int x11)), h10)) hB x true rfl (by decide) rfl (fun h => absurd h (by decide)) rfl (fun p hp e _ hpm => by
      subst e
      obtain ⟨r1, r2⟩ := mb_now hB hp
      refine d_ret hB ?_
      show zcv (zob (qH A S1) 119 7) (fX7_cyclesOf 119 (nI p) (nI n) (qH A S1)) _ = _
      rw [ob_119, q_cv, m_cycles hf hB.2.1.2.2.2.2.2.2.1 r2 r1 hpm (by omega), q_cal, q_vi])
    rw [if_pos ⟨c, Nat.zero_le _⟩]
    have e : (fun p => oN G 0 64 (nI n) fun n => oPm G p (.inr (.int (nI (if n = 0 then ctF (qF G.1.1) (G.1.2.2 p) (qF G.1.1) else ccF (qF G.1.1) (G.1.2.2 p) (qF G.1.1) n))), G)) = (fun p => if true = true then oPm G p (.inr (.int (nI (if n = 0 then ctF (qF G.1.1) (G.1.2.2 p) (qF G.1.1) else ccF (qF G.1.1) (G.1.2.2 p) (qF G.1.1) n))), G) else (.inl 1, rfU G 1)) := by
      funext p
      unfold oN
      rw [if_pos ⟨c, Nat.zero_le _⟩, if_pos rfl, nI_clamp (by omega)]
    rw [e]
    exact k
  · have k := d_BP (A := A) (T := tcA) (z0 := .int 0) (w := 3) (z := fun p => (.inl 1, rfU G 1)) (C := fun h7 => zcv (zob h7 119 7) (fX7_cyclesOf 119 x y h7) fun v9 h10 => zvi v9 fun x11 => some (.inl (some (.int x11)), h10)) hB x false rfl (by decide) rfl (fun _ => rfl) rfl (fun p hp e hb _ => absurd hb (by decide))
    rw [if_neg (fun h => c h.1)]
    have e : (fun p => oN G 0 64 y fun n => oPm G p (.inr (.int (nI (if n = 0 then ctF (qF G.1.1) (G.1.2.2 p) (qF G.1.1) else ccF (qF G.1.1) (G.1.2.2 p) (qF G.1.1) n))), G)) = (fun p => if false = true then oPm G p (.inl 1, rfU G 1) else (.inl 1, rfU G 1)) := by
      funext p
      unfold oN
      rw [if_neg (fun h => c h.1), if_neg (by decide)]
    rw [e]
    exact k
theorem om_order (h : MI G S) (x : Int32) : mOK tcB (.int 0) A S (fX7_order 119 x (qH A S)) (oP G x fun p => oPm G p (.inr (.int (nI (lcT (fun n => decide (0 < ccF (qF G.1.1) (G.1.2.2 p) (qF G.1.1) n)) 64))), G)) := by
  unfold fX7_order
  refine d_B h (fun S1 hB => ?_)
  have hf := hB.1.2.1.1
  have k := d_BP (A := A) (T := tcB) (z0 := .int 0) (w := 2) (z := fun p => (.inr (.int (nI (lcT (fun n => decide (0 < ccF (qF G.1.1) (G.1.2.2 p) (qF G.1.1) n)) 64))), G)) (C := fun h4 => fX7_order_20 FU 119 x 1 0 h4) hB x true rfl (by decide) rfl (fun h => absurd h (by decide)) rfl (fun p hp e _ hpm => by
    subst e
    obtain ⟨r1, r2⟩ := mb_now hB hp
    exact d_ret hB (m_order hf hB.2.1.2.2.2.2.2.2.1 r2 r1 hpm))
  have e : (fun p => oPm G p (.inr (.int (nI (lcT (fun n => decide (0 < ccF (qF G.1.1) (G.1.2.2 p) (qF G.1.1) n)) 64))), G)) = (fun p => if true = true then oPm G p (.inr (.int (nI (lcT (fun n => decide (0 < ccF (qF G.1.1) (G.1.2.2 p) (qF G.1.1) n)) 64))), G) else (.inl 1, rfU G 1)) := by
    funext p
    rw [if_pos rfl]
  rw [e]
  exact k
theorem om_even (h : MI G S) (x : Int32) : mOK tcB (.int 0) A S (fX7_even 119 x (qH A S)) (oP G x fun p => oPm G p (.inr (.int (if (qF G.1.1 - ctF (qF G.1.1) (G.1.2.2 p) (qF G.1.1)) % 2 = 0 then 1 else 0)), G)) := by
  have hq := qz h.2.1.1
  unfold fX7_even
  refine d_B h (fun S1 hB => ?_)
  have hf := hB.1.2.1.1
  have e : (fun p => oPm G p (.inr (.int (if (qF G.1.1 - ctF (qF G.1.1) (G.1.2.2 p) (qF G.1.1)) % 2 = 0 then 1 else 0)), G)) = (fun p => if true = true then oPm G p (.inr (.int (if (qF G.1.1 - ctF (qF G.1.1) (G.1.2.2 p) (qF G.1.1)) % 2 = 0 then 1 else 0)), G) else (.inl 1, rfU G 1)) := by
    funext p
    rw [if_pos rfl]
  rw [e]
  refine d_BP (A := A) (T := tcB) (z0 := .int 0) (w := 2) (z := fun p => (.inr (.int (if (qF G.1.1 - ctF (qF G.1.1) (G.1.2.2 p) (qF G.1.1)) % 2 = 0 then 1 else 0)), G)) (C := fun h4 => (zgI h4 119 7 15).bind fun x6 => zcv (zob h4 119 7) (fX7_cyclesOf 119 x 0 h4) fun v7 h8 => zvi v7 fun x9 => if (2 : Int32) = 0 then none else if ((x6 - x9) - (x6 - x9) / 2 * 2) = 0 then (some (.inl (some (.int 1)), h8)) else some (.inl (some (.int 0)), h8)) hB x true rfl (by decide) rfl (fun h => absurd h (by decide)) rfl (fun p hp e _ hpm => ?_)
  subst e
  obtain ⟨r1, r2⟩ := mb_now hB hp
  have hct : ctF (qF G.1.1) (G.1.2.2 p) (qF G.1.1) ≤ qF G.1.1 := fb_ct_le _ _
  have hcy := m_cycles (A := A) (n := 0) hf hB.2.1.2.2.2.2.2.2.1 r2 r1 hpm (by decide)
  rw [if_pos rfl] at hcy
  refine d_ret hB ?_
  show (zgI (qH A S1) 119 7 15).bind _ = _
  rw [gi_119_15, q_bs, hB.2.1.2.2.2.2.2.2.1, ob_119, q_cv]
  rw [show fX7_cyclesOf 119 (nI p) 0 (qH A S1) = _ from hcy, q_cal, q_vi, if_neg (by decide), pk_sub hct, show (2 : Int32) = nI 2 from rfl, pk_rem (by omega) (by decide) (by decide)]
  have m := Nat.mod_lt (qF G.1.1 - ctF (qF G.1.1) (G.1.2.2 p) (qF G.1.1)) (show 0 < 2 by decide)
  by_cases c : (qF G.1.1 - ctF (qF G.1.1) (G.1.2.2 p) (qF G.1.1)) % 2 = 0
  · rw [if_pos c, if_pos (by rw [c]; rfl)]
  · rw [if_neg c, if_neg (by rw [qlit, nI_eq (by omega) (by decide)]; exact c)]
end QMQ
