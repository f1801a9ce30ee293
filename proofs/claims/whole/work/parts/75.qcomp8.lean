/-! feeding -/
def byF (x : Int32) (k : Nat) : Nat := x.toBitVec.toNat / 2 ^ k % 256
def gB (G : GS) (b : Nat) : GS := (G.1, G.2.1, (G.2.2.1.1 + 1, fun i => if i = G.2.2.1.1 then b else G.2.2.1.2 i), G.2.2.2)
def gW (G : GS) (x : Int32) : GS := gB (gB (gB (gB G (byF x 24)) (byF x 16)) (byF x 8)) (byF x 0)
theorem by_u (x : Int32) {k : Nat} (hk : k < 32) : ((x.toUInt32 >>> ((nI k).toUInt32 &&& Int32.toUInt32 31)).toInt32 &&& 255) = nI (byF x k) := by
  obtain ⟨n, hn, rfl⟩ := wb_of32 x
  rw [pk_ushrN hn (nI k) k (s_u k hk), pk_andN (Nat.lt_of_le_of_lt (Nat.div_le_self _ _) hn) 8 (by decide)]
  unfold byF
  rw [pk_tn hn]
section QV8
variable {A : AS} {S : SS} {G : GS}
theorem ci_byte (h : CI G S) {b : Nat} (hb : b < 256) (hl : G.2.2.1.1 < 300) : CI (gB G b) (us (ua S 90 G.2.2.1.1 (nI b)) 89 0 (nI (G.2.2.1.1 + 1))) := by
  obtain ⟨h1, h2, h3, ⟨h4, h5, h6⟩, h7, h8⟩ := h
  have hX : eqo (fun x => x = 89 ∨ x = 90) S (us (ua S 90 G.2.2.1.1 (nI b)) 89 0 (nI (G.2.2.1.1 + 1))) := (eqo.ua (X := fun x => x = 89 ∨ x = 90) (Or.inr rfl)).tr (eqo.us (Or.inl rfl))
  refine ⟨h1.eqo hX (fun b _ hb (hx : b = 89 ∨ b = 90) => by omega), h2.eqo hX (fun b _ hb (hx : b = 89 ∨ b = 90) => by omega), h3.eqo hX (fun b _ hb (hx : b = 89 ∨ b = 90) => by omega), ⟨by show G.2.2.1.1 + 1 ≤ 300; omega, by rw [us_at, if_pos rfl]; rfl, fun i hi => ?_⟩, fun j hj => ?_, ?_⟩
  · have hi' : i < G.2.2.1.1 + 1 := hi
    show _ = nI (if i = G.2.2.1.1 then b else G.2.2.1.2 i) ∧ (if i = G.2.2.1.1 then b else G.2.2.1.2 i) < 256
    rw [us_r, ua_at]
    by_cases e : i = G.2.2.1.1
    · rw [if_pos e, if_pos e]; exact ⟨rfl, hb⟩
    · rw [if_neg e, if_neg e]; exact h6 i (by omega)
  · rw [us_r, ua_ne (by decide)]; exact h7 j hj
  · rw [us_ne (by decide), ua_s]; exact h8
theorem c_put1 (h : CI G S) (hl : G.2.2.1.1 < 300) (x : Int32) {k : Nat} (hk : k < 32) (K : Nat) : fX5_put_3 (K + 1) 89 x (nI k) (qH A S) = fX5_put_3 K 89 x (nI k + (-8)) (qH A (us (ua S 90 G.2.2.1.1 (nI (byF x k))) 89 0 (nI (G.2.2.1.1 + 1)))) := by
  have h5 := h.2.2.2.1.2.1
  have hua : (ua S 90 G.2.2.1.1 (nI (byF x k))).1 89 0 = nI G.2.2.1.1 := by rw [ua_s]; exact h5
  rw [fX5_put_3, if_neg (nI_pos (by omega)), gi_89_0, q_bs, h5, if_neg (by rw [qlit, nI_leI (by decide) (by omega)]; omega), gr_89_4, q_bs, q_bs, by_u x hk, q_si ql_90 hl, q_bs, gi_89_0, q_bs, hua, nI_1, pi_89_0, q_bs]
theorem c_put (h : CI G S) (hl : G.2.2.1.1 + 4 ≤ 300) (x : Int32) : ∃ S', fX5_put 89 x (qH A S) = some (.inl none, qH A S') ∧ CI (gW G x) S' ∧ eqo (fun x => x ≤ 118) S S' := by
  have b9 : ∀ k, byF x k < 256 := fun k => Nat.mod_lt _ (by decide)
  have st : ∀ (S : SS) (n : Nat) (v w : Int32), eqo (fun x => x ≤ 118) S (us (ua S 90 n v) 89 0 w) := fun S n v w => (eqo.ua (X := fun x => x ≤ 118) (by decide)).tr (eqo.us (by decide))
  have h1 := ci_byte h (b9 24) (by omega)
  have h2 := ci_byte h1 (b9 16) (show G.2.2.1.1 + 1 < 300 by omega)
  have h3 := ci_byte h2 (b9 8) (show G.2.2.1.1 + 1 + 1 < 300 by omega)
  have h4 := ci_byte h3 (b9 0) (show G.2.2.1.1 + 1 + 1 + 1 < 300 by omega)
  refine ⟨_, ?_, h4, (((st _ _ _ _).tr (st _ _ _ _)).tr (st _ _ _ _)).tr (st _ _ _ _)⟩
  unfold fX5_put
  rw [show FU = 19995 + 1 + 1 + 1 + 1 + 1 from rfl, show (24 : Int32) = nI 24 from rfl, c_put1 h (by omega) x (by decide), show nI 24 + (-8) = nI 16 from by decide, c_put1 h1 (show G.2.2.1.1 + 1 < 300 by omega) x (by decide), show nI 16 + (-8) = nI 8 from by decide, c_put1 h2 (show G.2.2.1.1 + 1 + 1 < 300 by omega) x (by decide), show nI 8 + (-8) = nI 0 from by decide, c_put1 h3 (show G.2.2.1.1 + 1 + 1 + 1 < 300 by omega) x (by decide), fX5_put_3, if_pos (by decide)]
theorem oc_feed (h : CI G S) (a b c d e : Int32) : cOK A S (fX6_feed 0 a b c d e (qH A S)) (if G.2.2.1.1 + 20 ≤ 300 then (.inr (.int (nI (G.2.2.1.1 + 20))), gW (gW (gW (gW (gW G a) b) c) d) e) else (.inr (.int (-1)), G)) := by
  have h5 := h.2.2.2.1.2.1
  have h4 := h.2.2.2.1.1
  unfold fX6_feed
  rw [gr_0_4, q_bs, gi_89_0, q_bs, h5, show (20 : Int32) = nI 20 from rfl, nI_add, show (300 : Int32) = nI 300 from rfl]
  by_cases hc : G.2.2.1.1 + 20 ≤ 300
  · rw [if_pos (nI_le hc (by decide)), if_pos hc]
    obtain ⟨S1, a1, a2, a3⟩ := c_put (A := A) h (by omega) a
    obtain ⟨S2, b1, b2, b3⟩ := c_put (A := A) a2 (show G.2.2.1.1 + 1 + 1 + 1 + 1 + 4 ≤ 300 by omega) b
    obtain ⟨S3, c1, c2, c3⟩ := c_put (A := A) b2 (show G.2.2.1.1 + 1 + 1 + 1 + 1 + 1 + 1 + 1 + 1 + 4 ≤ 300 by omega) c
    obtain ⟨S4, d1, d2, d3⟩ := c_put (A := A) c2 (show G.2.2.1.1 + 1 + 1 + 1 + 1 + 1 + 1 + 1 + 1 + 1 + 1 + 1 + 1 + 4 ≤ 300 by omega) d
    obtain ⟨S5, e1, e2, e3⟩ := c_put (A := A) d2 (show G.2.2.1.1 + 1 + 1 + 1 + 1 + 1 + 1 + 1 + 1 + 1 + 1 + 1 + 1 + 1 + 1 + 1 + 1 + 4 ≤ 300 by omega) e
    refine c_retG e2 ((((a3.tr b3).tr c3).tr d3).tr e3) (fun b hb => hb) ?_
    have h9 : S5.1 89 0 = nI (G.2.2.1.1 + 20) := e2.2.2.2.1.2.1
    simp only [gr_0_4, q_bs, ob_89, q_cv, a1, b1, c1, d1, e1, q_cal, q_vn, gi_89_0, h9]
  · rw [if_neg (nI_ge (by omega) (by omega)), if_neg hc]
    exact c_ret h rfl
end QV8
