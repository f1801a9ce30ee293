/-! the component's questions, the rest but the texts -/
section QV6
variable {A : AS} {S : SS} {G : GS}
theorem oc_coef (h : CI G S) (x y : Int32) : cOK A S (fX6_coefficient 0 x y (qH A S)) (oP G x fun p => oN G 0 (qF G.1.1 - 1) y fun k => (.inr (.int (nI (if k = 0 then G.1.2.2 p 0 else ng G.1.1 (cfF G.1.1 (G.1.2.2 p) k)))), G)) := by
  have hq := qz h.2.1.1
  have hs : isSt 7 = true := by decide
  have hz : S.1 1 2 = nI (qF G.1.1) := h.1.2.2.2.2.2.2.1
  unfold fX6_coefficient
  refine c_P h x (fun p hp e => ?_)
  rw [gr_0_0, q_bs, gi_1_2, q_bs, hz]
  refine c_N (lo := 0) (hi := qF G.1.1 - 1) h y rfl (show nI (qF G.1.1) - 1 = nI (qF G.1.1 - 1) from pk_sub (b := 1) (by omega)) (by omega) (by omega) (fun k k1 k2 e2 => ?_)
  obtain ⟨r1, r2, r3, r4⟩ := x_row (A := A) h hp
  refine c_ret h ?_
  rw [e, e2, gr_0_6, q_bs, gr_0_1, q_bs, gr_st hs, q_bs, r4, q_bs, ob_113, q_cv, st_coef h.2.1.1 h.1 r2 r1 (by omega), q_cal, q_vi]
def ptV (f a b w : Nat) : Int32 := if w = 0 then nI (ad f a b) else if w = 1 then nI (ad f a (ng f b)) else if w = 2 then nI (mu f a b) else if b = 0 then -1 else nI (mu f a (iv f b))
theorem oc_points (h : CI G S) (x y w : Int32) : cOK A S (fX6_points 0 x y w (qH A S)) (oQ G x fun a => oQ G y fun b => oN G 0 3 w fun n => (.inr (.int (ptV G.1.1 a b n)), G)) := by
  have hq := qz h.2.1.1
  unfold fX6_points
  refine c_Q h x (fun a ha e => ?_)
  refine c_Q h y (fun b hb e2 => ?_)
  refine c_N (lo := 0) (hi := 3) h w rfl rfl (by decide) (by decide) (fun n n1 n2 e3 => ?_)
  refine c_ret h ?_
  unfold ptV
  subst e; subst e2; subst e3
  by_cases c0 : n = 0
  · rw [if_pos (by rw [c0]; rfl), if_pos c0, gr_0_0, q_bs, ob_1, q_cv, tc_sum h.2.1.1 h.1 ha hb, q_cal, q_vi]
  rw [if_neg (by rw [qlit, nI_eq (by omega) (by decide)]; exact c0), if_neg c0]
  by_cases c1 : n = 1
  · rw [if_pos (by rw [c1]; rfl), if_pos c1, gr_0_0, q_bs, ob_1, q_cv, tc_dif h.2.1.1 h.1 ha hb, q_cal, q_vi]
  rw [if_neg (by rw [qlit, nI_eq (by omega) (by decide)]; exact c1), if_neg c1]
  by_cases c2 : n = 2
  · rw [if_pos (by rw [c2]; rfl), if_pos c2, gr_0_0, q_bs, ob_1, q_cv, tc_mul h.2.1.1 h.1 ha hb, q_cal, q_vi]
  rw [if_neg (by rw [qlit, nI_eq (by omega) (by decide)]; exact c2), if_neg c2]
  by_cases c3 : b = 0
  · rw [if_pos (by rw [c3]; rfl), if_pos c3]
  rw [if_neg (by rw [qlit, nI_eq (by omega) (by decide)]; exact c3), if_neg c3, gr_0_0, q_bs, q_bs, gr_1_7, q_bs, q_ai ql_5 (by omega), q_bs, h.1.2.2.2.1 b hb c3, ob_1, q_cv, tc_mul h.2.1.1 h.1 ha (iv_lt h.2.1.1 hb), q_cal, q_vi]
def tdV (G : GS) (n : Nat) : Nat := if n = 0 then qF G.1.1 else if n = 1 then pF G.1.1 else if n = 2 then mF G.1.1 else if n = 3 then dF G.1.1 else if n = 4 then G.1.2.1 else if n = 5 then G.2.2.1.1 else G.2.1.1
theorem oc_told (h : CI G S) (x : Int32) : cOK A S (fX6_told 0 x (qH A S)) (oN G 0 6 x fun n => (.inr (.int (nI (tdV G n))), G)) := by
  have hs : isSt 7 = true := by decide
  obtain ⟨t1, t2, t3, t4⟩ := h.1.2.2.2.2
  unfold fX6_told
  refine c_N (lo := 0) (hi := 6) h x rfl rfl (by decide) (by decide) (fun n n1 n2 e => ?_)
  refine c_ret h ?_
  unfold tdV
  subst e
  by_cases c0 : n = 0
  · rw [if_pos (by rw [c0]; rfl), if_pos c0, gr_0_0, q_bs, gi_1_2, q_bs, t3]
  rw [if_neg (by rw [qlit, nI_eq (by omega) (by decide)]; exact c0), if_neg c0]
  by_cases c1 : n = 1
  · rw [if_pos (by rw [c1]; rfl), if_pos c1, gr_0_0, q_bs, gi_1_0, q_bs, t1]
  rw [if_neg (by rw [qlit, nI_eq (by omega) (by decide)]; exact c1), if_neg c1]
  by_cases c2 : n = 2
  · rw [if_pos (by rw [c2]; rfl), if_pos c2, gr_0_0, q_bs, gi_1_1, q_bs, t2]
  rw [if_neg (by rw [qlit, nI_eq (by omega) (by decide)]; exact c2), if_neg c2]
  by_cases c3 : n = 3
  · rw [if_pos (by rw [c3]; rfl), if_pos c3, gr_0_0, q_bs, gi_1_3, q_bs, t4]
  rw [if_neg (by rw [qlit, nI_eq (by omega) (by decide)]; exact c3), if_neg c3]
  by_cases c4 : n = 4
  · rw [if_pos (by rw [c4]; rfl), if_pos c4, gr_0_1, q_bs, gi_st hs (by decide), q_bs, h.2.1.2.2.2.1]
  rw [if_neg (by rw [qlit, nI_eq (by omega) (by decide)]; exact c4), if_neg c4]
  by_cases c5 : n = 5
  · rw [if_pos (by rw [c5]; rfl), if_pos c5, gr_0_4, q_bs, gi_89_0, q_bs, h.2.2.2.1.2.1]
  rw [if_neg (by rw [qlit, nI_eq (by omega) (by decide)]; exact c5), if_neg c5, gr_0_3, q_bs, gi_23_0, q_bs, h.2.2.1.2.1]
theorem oc_status (h : CI G S) (x : Int32) : cOK A S (fX6_status 0 x (qH A S)) (.inr (.int (if okI 3 x = true then G.2.2.2.1 x.toNatClampNeg else -1)), G) := by
  refine c_ret h ?_
  unfold fX6_status
  rcases pk_ix x (show 3 < 2 ^ 31 by decide) with hx | hx | ⟨p, hp, rfl⟩
  · rw [if_pos hx, ok_no (fun p hp e => by subst e; exact nI_pos (by omega) hx), if_neg (by decide)]
  · have h0 : ¬ x < 0 := by
      intro hc
      have h1 := Int32.lt_iff_toInt_lt.mp hc
      have h2 := Int32.le_iff_toInt_le.mp hx
      rw [nI_toInt (by omega)] at h2
      have : (0 : Int32).toInt = 0 := rfl
      omega
    rw [if_neg h0, gr_0_7, q_bs, q_len ql_118, q_bs, if_neg (by intro hc; have h1 := Int32.lt_iff_toInt_lt.mp hc; have h2 := Int32.le_iff_toInt_le.mp hx; rw [show Int32.ofNat 3 = nI 3 from rfl] at h1; omega), ok_no (fun p hp e => by subst e; rw [nI_leI (by omega) (by omega)] at hx; omega), if_neg (by decide)]
  · obtain ⟨o1, o2⟩ := ok_at (n := 3) (p := p) (by decide) hp
    rw [if_neg (nI_pos (by omega)), gr_0_7, q_bs, q_len ql_118, q_bs, show Int32.ofNat 3 = nI 3 from rfl, if_pos (nI_lt hp (by decide)), q_bs, q_ai ql_118 hp, q_bs, o1, if_pos rfl, o2, h.2.2.2.2.1 p hp]
end QV6
