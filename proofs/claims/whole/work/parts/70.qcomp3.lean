/-! conditions ahead of an answer, one by one -/
def oP (G : GS) (x : Int32) (z : Nat → OC) : OC := if okI G.1.2.1 x = true then z x.toNatClampNeg else (.inl 0, rfU G 0)
def oQ (G : GS) (x : Int32) (z : Nat → OC) : OC := if okI (qF G.1.1) x = true then z x.toNatClampNeg else (.inl 0, rfU G 0)
def oN (G : GS) (lo hi : Nat) (x : Int32) (z : Nat → OC) : OC := if okI (hi + 1) x = true ∧ lo ≤ x.toNatClampNeg then z x.toNatClampNeg else (.inl 1, rfU G 1)
def oRm (G : GS) (z : OC) : OC := if G.1.2.1 < 6 then z else (.inl 2, rfU G 2)
def oPm (G : GS) (p : Nat) (z : OC) : OC := if pmB (qF G.1.1) (G.1.2.2 p) = true then z else (.inl 2, rfU G 2)
section QX
variable {A : AS} {S : SS} {G : GS}
theorem c_P (h : CI G S) (x : Int32) {z : Nat → OC} {K : AH → RR} (hk : ∀ p, p < G.1.2.1 → x = nI p → cOK A S (K (qH A S)) (z p)) : cOK A S (zcv (zob (qH A S) 0 6) (fX6_needPoly 0 x (qH A S)) fun v1 h2 => zvn v1 (K h2)) (oP G x z) := by
  have h5 := h.2.1.2.2.2.2.1
  unfold oP
  rcases nd_poly (A := A) h x with ⟨p, p1, p2, p3⟩ | ⟨p1, p2⟩
  · obtain ⟨o1, o2⟩ := ok_at (show G.1.2.1 < 2 ^ 31 by omega) p1
    rw [p3, ob_0, q_cv, q_cal, q_vn, p2, o1, if_pos rfl, o2]
    exact hk p p1 p2
  · rw [ok_no p1, if_neg (by decide)]
    refine c_ref h (by decide) ?_
    unfold refd at p2 ⊢
    rw [p2, ob_0, q_cv, q_car]
theorem c_Q (h : CI G S) (x : Int32) {z : Nat → OC} {K : AH → RR} (hk : ∀ p, p < qF G.1.1 → x = nI p → cOK A S (K (qH A S)) (z p)) : cOK A S (zcv (zob (qH A S) 0 6) (fX6_needPoint 0 x (qH A S)) fun v1 h2 => zvn v1 (K h2)) (oQ G x z) := by
  have hq := qz h.2.1.1
  unfold oQ
  rcases nd_point (A := A) h x with ⟨p, p1, p2, p3⟩ | ⟨p1, p2⟩
  · obtain ⟨o1, o2⟩ := ok_at (show qF G.1.1 < 2 ^ 31 by omega) p1
    rw [p3, ob_0, q_cv, q_cal, q_vn, p2, o1, if_pos rfl, o2]
    exact hk p p1 p2
  · rw [ok_no p1, if_neg (by decide)]
    refine c_ref h (by decide) ?_
    unfold refd at p2 ⊢
    rw [p2, ob_0, q_cv, q_car]
theorem c_N (h : CI G S) (x : Int32) {lo hi : Nat} {l9 h9 : Int32} (hl9 : l9 = nI lo) (hh9 : h9 = nI hi) (hhi : hi < 2 ^ 31 - 1) (hlo : lo ≤ hi) {z : Nat → OC} {K : AH → RR} (hk : ∀ n, lo ≤ n → n ≤ hi → x = nI n → cOK A S (K (qH A S)) (z n)) : cOK A S (zcv (zob (qH A S) 0 6) (fX6_needNumber 0 x l9 h9 (qH A S)) fun v1 h2 => zvn v1 (K h2)) (oN G lo hi x z) := by
  subst hl9; subst hh9
  unfold oN
  rcases nd_number (A := A) h x (show hi < 2 ^ 31 by omega) hlo with ⟨n, n1, n2, n3, n4⟩ | ⟨p1, p2⟩
  · obtain ⟨o1, o2⟩ := ok_at (n := hi + 1) (p := n) (by omega) (by omega)
    rw [n4, ob_0, q_cv, q_cal, q_vn, n3, if_pos ⟨o1, by rw [o2]; exact n1⟩, o2]
    exact hk n n1 n2 n3
  · rw [if_neg (by
      rintro ⟨q1, q2⟩
      obtain ⟨n, m1, m2⟩ := ok_iff.mp q1
      rw [m2, nI_clamp (by omega)] at q2
      exact p1 n q2 (by omega) m2)]
    refine c_ref h (by decide) ?_
    unfold refd at p2 ⊢
    rw [p2, ob_0, q_cv, q_car]
theorem c_R (h : CI G S) {z : OC} {K : AH → RR} (hk : G.1.2.1 < 6 → cOK A S (K (qH A S)) z) : cOK A S (zcv (zob (qH A S) 0 6) (fX6_needRoom 0 (qH A S)) fun v1 h2 => zvn v1 (K h2)) (oRm G z) := by
  unfold oRm
  rcases nd_room (A := A) h with ⟨p1, p2⟩ | ⟨p1, p2⟩
  · rw [p2, ob_0, q_cv, q_cal, q_vn, if_pos p1]
    exact hk p1
  · rw [if_neg (by omega)]
    refine c_ref h (by decide) ?_
    unfold refd at p2 ⊢
    rw [p2, ob_0, q_cv, q_car]
theorem c_M (h : CI G S) {p : Nat} (hp : p < G.1.2.1) {z : OC} {K : AH → RR} (hk : pmB (qF G.1.1) (G.1.2.2 p) = true → cOK A S (K (qH A S)) z) : cOK A S (zcv (zob (qH A S) 0 6) (fX6_needPermuting 0 (nI p) (qH A S)) fun v1 h2 => zvn v1 (K h2)) (oPm G p z) := by
  unfold oPm
  rcases nd_perm (A := A) h hp with ⟨p1, p2⟩ | ⟨p1, p2⟩
  · rw [p2, ob_0, q_cv, q_cal, q_vn, if_pos p1]
    exact hk p1
  · rw [if_neg p1]
    refine c_ref h (by decide) ?_
    unfold refd at p2 ⊢
    rw [p2, ob_0, q_cv, q_car]
theorem oc_at (h : CI G S) (x y : Int32) : cOK A S (fX6_at 0 x y (qH A S)) (oP G x fun p => oQ G y fun u => (.inr (.int (nI (G.1.2.2 p u))), G)) := by
  have hq := qz h.2.1.1
  unfold fX6_at
  refine c_P h x (fun p hp e => ?_)
  refine c_Q h y (fun u hu e2 => ?_)
  obtain ⟨r1, r2, r3, r4⟩ := x_row (A := A) h hp
  refine c_ret h ?_
  rw [e, e2, gr_0_1, q_bs, gr_st (by decide), q_bs, r4, q_bs, q_ai r2 (by omega), q_bs, (r1 u hu).1]
theorem oc_taken (h : CI G S) (x y : Int32) : cOK A S (fX6_taken 0 x y (qH A S)) (oP G x fun p => oQ G y fun u => (.inr (.int (nI (cnV (qF G.1.1) (G.1.2.2 p) u))), G)) := by
  have hq := qz h.2.1.1
  have hz : S.1 1 2 = nI (qF G.1.1) := h.1.2.2.2.2.2.2.1
  unfold fX6_taken
  refine c_P h x (fun p hp e => ?_)
  refine c_Q h y (fun u hu e2 => ?_)
  obtain ⟨r1, r2, r3, r4⟩ := x_row (A := A) h hp
  refine c_ret h ?_
  rw [e, e2, gr_0_6, q_bs, gr_0_1, q_bs, gr_st (by decide), q_bs, r4, q_bs, ob_113, q_cv, st_count h.2.1.1 hz r2 r1 (by omega), q_cal, q_vi]
theorem oc_cycles (h : CI G S) (x y : Int32) : cOK A S (fX6_cycles 0 x y (qH A S)) (oP G x fun p => oN G 0 64 y fun n => oPm G p (.inr (.int (nI (if n = 0 then ctF (qF G.1.1) (G.1.2.2 p) (qF G.1.1) else ccF (qF G.1.1) (G.1.2.2 p) (qF G.1.1) n))), G)) := by
  have hq := qz h.2.1.1
  have hz : S.1 1 2 = nI (qF G.1.1) := h.1.2.2.2.2.2.2.1
  unfold fX6_cycles
  refine c_P h x (fun p hp e => ?_)
  refine c_N (lo := 0) (hi := 64) h y rfl rfl (by decide) (by decide) (fun n n1 n2 e2 => ?_)
  subst e
  refine c_M h hp (fun hpm => ?_)
  obtain ⟨r1, r2, r3, r4⟩ := x_row (A := A) h hp
  obtain ⟨S', a1, a2, a3, a4⟩ := st_find (A := A) h.2.1.1 hz r2 r1 (by omega) hpm
  refine c_ret2 h a2 (fun b hb => by have : b = 113 ∨ b = 114 := hb; omega) ?_
  rw [e2, gr_0_6, q_bs, gr_0_1, q_bs, gr_st (by decide), q_bs, r4, q_bs, ob_113, q_cv, a1, q_cal, q_vn]
  by_cases c : n = 0
  · rw [if_pos c, if_pos (by rw [c]; rfl), gr_0_6, q_bs, gi_113_0, q_bs, a4]
  · rw [if_neg c, if_neg (by rw [qlit, nI_eq (by omega) (by decide)]; exact c), gr_0_6, q_bs, gr_113_1, q_bs, q_ai ql_114 (by omega), q_bs, a3 n (by omega)]
theorem oc_order (h : CI G S) (x : Int32) : cOK A S (fX6_order 0 x (qH A S)) (oP G x fun p => oPm G p (.inr (.int (nI (lcT (fun n => decide (0 < ccF (qF G.1.1) (G.1.2.2 p) (qF G.1.1) n)) 64))), G)) := by
  have hq := qz h.2.1.1
  have hz : S.1 1 2 = nI (qF G.1.1) := h.1.2.2.2.2.2.2.1
  unfold fX6_order
  refine c_P h x (fun p hp e => ?_)
  subst e
  refine c_M h hp (fun hpm => ?_)
  obtain ⟨r1, r2, r3, r4⟩ := x_row (A := A) h hp
  obtain ⟨S', a1, a2, a3, a4⟩ := st_find (A := A) h.2.1.1 hz r2 r1 (by omega) hpm
  refine c_ret2 h a2 (fun b hb => by have : b = 113 ∨ b = 114 := hb; omega) ?_
  have hcc : ∀ n, ccF (qF G.1.1) (G.1.2.2 p) (qF G.1.1) n ≤ qF G.1.1 := fun n => by unfold ccF; split; exact Nat.zero_le _; exact fb_ct_le _ _
  have hm := st_multiple (A := A) (S := S') (c := ccF (qF G.1.1) (G.1.2.2 p) (qF G.1.1)) (fun n hn => ⟨a3 n hn, by have := hcc n; omega⟩) (Nat.le_trans (smT_cy 64 (qF G.1.1)) (Nat.le_trans (cy_le hpm (fun u hu => (r1 u hu).2)) hq.1))
  rw [gr_0_6, q_bs, gr_0_1, q_bs, gr_st (by decide), q_bs, r4, q_bs, ob_113, q_cv, a1, q_cal, q_vn, gr_0_6, q_bs, ob_113, q_cv, hm, q_cal, q_vi]
theorem oc_even (h : CI G S) (x : Int32) : cOK A S (fX6_even 0 x (qH A S)) (oP G x fun p => oPm G p (.inr (.int (if (qF G.1.1 - ctF (qF G.1.1) (G.1.2.2 p) (qF G.1.1)) % 2 = 0 then 1 else 0)), G)) := by
  have hq := qz h.2.1.1
  have hz : S.1 1 2 = nI (qF G.1.1) := h.1.2.2.2.2.2.2.1
  unfold fX6_even
  refine c_P h x (fun p hp e => ?_)
  subst e
  refine c_M h hp (fun hpm => ?_)
  obtain ⟨r1, r2, r3, r4⟩ := x_row (A := A) h hp
  obtain ⟨S', a1, a2, a3, a4⟩ := st_find (A := A) h.2.1.1 hz r2 r1 (by omega) hpm
  refine c_ret2 h a2 (fun b hb => by have : b = 113 ∨ b = 114 := hb; omega) ?_
  have hct : ctF (qF G.1.1) (G.1.2.2 p) (qF G.1.1) ≤ qF G.1.1 := fb_ct_le _ _
  have hz' : S'.1 1 2 = nI (qF G.1.1) := by rw [(a2.1 1 (by decide)).1]; exact hz
  rw [gr_0_6, q_bs, gr_0_1, q_bs, gr_st (by decide), q_bs, r4, q_bs, ob_113, q_cv, a1, q_cal, q_vn, gr_0_0, q_bs, gi_1_2, q_bs, hz', gr_0_6, q_bs, gi_113_0, q_bs, a4, if_neg (by decide), pk_sub hct, show (2 : Int32) = nI 2 from rfl, pk_rem (by omega) (by decide) (by decide)]
  have m := Nat.mod_lt (qF G.1.1 - ctF (qF G.1.1) (G.1.2.2 p) (qF G.1.1)) (show 0 < 2 by decide)
  by_cases c : (qF G.1.1 - ctF (qF G.1.1) (G.1.2.2 p) (qF G.1.1)) % 2 = 0
  · rw [if_pos c, if_pos (by rw [c]; rfl)]
  · rw [if_neg c, if_neg (by rw [qlit, nI_eq (by omega) (by decide)]; exact c)]
theorem oc_fault (h : CI G S) : cOK A S (fX6_fault 0 (qH A S)) (.inr (.int G.2.2.2.2), G) := by
  refine c_ret h ?_
  unfold fX6_fault
  rw [gi_0_8, q_bs, h.2.2.2.2.2]
theorem oc_mono (h : CI G S) : cOK A S (fX6_monomials 0 (qH A S)) (.inr (.long (lN (bst (fun m => pmB (qF G.1.1) (fun x => pw G.1.1 x m)) (qF G.1.1 - 1)))), G) := by
  obtain ⟨S', a1, a2⟩ := st_mono (A := A) h.2.1.1 h.1
  refine c_ret2 h a2 (fun b hb => by have : b = 116 := hb; omega) ?_
  unfold fX6_monomials
  rw [gr_0_6, q_bs, ob_113, q_cv, a1, q_cal, q_vj]
theorem oc_dick (h : CI G S) (x : Int32) : cOK A S (fX6_dicksons 0 x (qH A S)) (oQ G x fun a => (.inr (.long (lN (bst (fun m => pmB (qF G.1.1) (fun x => dk G.1.1 a x m)) 63))), G)) := by
  unfold fX6_dicksons
  refine c_Q h x (fun a ha e => ?_)
  obtain ⟨S', a1, a2⟩ := st_dick (A := A) h.2.1.1 h.1 ha
  refine c_ret2 h a2 (fun b hb => by have : b = 116 ∨ b = 117 := hb; omega) ?_
  rw [e, gr_0_6, q_bs, ob_113, q_cv, a1, q_cal, q_vj]
theorem oc_bin (h : CI G S) (x : Int32) : cOK A S (fX6_binomials 0 x (qH A S)) (oN G 2 63 x fun n => (.inr (.int (nI (fb_ct (fun a => pmB (qF G.1.1) (fun x => ad G.1.1 (pw G.1.1 x n) (mu G.1.1 a x))) (qF G.1.1)))), G)) := by
  unfold fX6_binomials
  refine c_N (lo := 2) (hi := 63) h x rfl rfl (by decide) (by decide) (fun n n1 n2 e => ?_)
  obtain ⟨S', a1, a2⟩ := st_bin (A := A) (n := n) h.2.1.1 h.1 (by omega)
  refine c_ret2 h a2 (fun b hb => by have : b = 116 ∨ b = 117 := hb; omega) ?_
  rw [e, gr_0_6, q_bs, ob_113, q_cv, a1, q_cal, q_vi]
theorem oc_orbit (h : CI G S) (x : Int32) : cOK A S (fX6_orbit 0 x (qH A S)) (oQ G x fun u => (.inr (.int (nI (ctB (rcF (qF G.1.1) G.1.2.1 G.1.2.2 (qF G.1.1) (2 ^ u))))), G)) := by
  have hq := qz h.2.1.1
  have hz : S.1 1 2 = nI (qF G.1.1) := h.1.2.2.2.2.2.2.1
  unfold fX6_orbit
  refine c_Q h x (fun u hu e => ?_)
  refine c_ret h ?_
  have hW : ∀ i, i < G.1.2.1 → ∀ y, y < qF G.1.1 → G.1.2.2 i y < qF G.1.1 := fun i hi y hy => (h.2.1.2.2.2.2.2 i hi y hy).2
  have hlt : rcF (qF G.1.1) G.1.2.1 G.1.2.2 (qF G.1.1) (2 ^ u) < 2 ^ 64 := by
    apply Nat.lt_pow_two_of_testBit
    intro i hi
    cases hb : (rcF (qF G.1.1) G.1.2.1 G.1.2.2 (qF G.1.1) (2 ^ u)).testBit i with
    | false => rfl
    | true =>
      have := Rch.lt hW hu ((rc_bit hW hu i).mp hb)
      omega
  rw [e, gr_0_6, q_bs, gr_0_1, q_bs, ob_113, q_cv, st_reach hz h.2.1 hu, q_cal, q_vj, pc_bit hlt, q_cal, q_vi]
end QX
