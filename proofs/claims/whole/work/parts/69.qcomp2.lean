/-! outcomes told by the state; the component's questions answer so -/
abbrev OC : Type := (Nat ⊕ Value) × GS
def okI (n : Nat) (x : Int32) : Bool := (List.range n).any (fun p => x == nI p)
theorem ok_iff {n : Nat} {x : Int32} : okI n x = true ↔ ∃ p, p < n ∧ x = nI p := by
  unfold okI
  rw [List.any_eq_true]
  constructor
  · rintro ⟨p, h1, h2⟩
    exact ⟨p, List.mem_range.mp h1, by simpa using h2⟩
  · rintro ⟨p, h1, h2⟩
    exact ⟨p, List.mem_range.mpr h1, by simpa using h2⟩
/-- what the component does is what is told -/
def cOK (A : AS) (S : SS) (o : RR) (z : OC) : Prop := ∃ S', CI z.2 S' ∧ eqo (fun x => x ≤ 118) S S' ∧ o = (match z.1 with | .inl e => some (.inr e, qH (qJ A) S') | .inr v => some (.inl (some v), qH A S'))
section QY
variable {A : AS} {S : SS} {G : GS}
theorem ok_at {n p : Nat} (hn : n < 2 ^ 31) (hp : p < n) : okI n (nI p) = true ∧ (nI p).toNatClampNeg = p := ⟨ok_iff.mpr ⟨p, hp, rfl⟩, nI_clamp (by omega)⟩
theorem ok_no {n : Nat} {x : Int32} (h : ∀ p, p < n → x ≠ nI p) : okI n x = false := by
  cases hb : okI n x with
  | false => rfl
  | true => obtain ⟨p, h1, h2⟩ := ok_iff.mp hb; exact absurd h2 (h p h1)
theorem c_ref (h : CI G S) {j e : Nat} (hj : j < 3) {o : RR} (ho : refd A S G j e o) : cOK A S o (.inl e, rfU G j) := by
  obtain ⟨h1, h2⟩ := ci_ref h hj
  refine ⟨_, h1, h2.mo (fun b hb => by have : b = 118 := hb; omega), ?_⟩
  unfold refd at ho
  rw [ho]
theorem c_ret (h : CI G S) {o : RR} {v : Value} (ho : o = some (.inl (some v), qH A S)) : cOK A S o (.inr v, G) := ⟨S, h, eqo.rf, by rw [ho]⟩
theorem c_ret2 {S' : SS} {X : Nat → Prop} (h : CI G S) (hX : eqo X S S') (hn : ∀ b, X b → 113 ≤ b ∧ b ≤ 117) {o : RR} {v : Value} (ho : o = some (.inl (some v), qH A S')) : cOK A S o (.inr v, G) := ⟨S', ci_eqo h hX hn, hX.mo (fun b hb => by have := hn b hb; omega), by rw [ho]⟩
/-- a question about one row -/
def oRow (G : GS) (x : Int32) (v : Nat → Value) : OC := if okI G.1.2.1 x = true then (.inr (v x.toNatClampNeg), G) else (.inl 0, rfU G 0)
theorem c_row (h : CI G S) (x : Int32) {v : Nat → Value} {K : AH → RR} {o : RR} (ho : o = zcv (zob (qH A S) 0 6) (fX6_needPoly 0 x (qH A S)) fun v1 h2 => zvn v1 (K h2)) (hk : ∀ p, p < G.1.2.1 → x = nI p → cOK A S (K (qH A S)) (.inr (v p), G)) : cOK A S o (oRow G x v) := by
  have h5 := h.2.1.2.2.2.2.1
  unfold oRow
  subst ho
  rcases nd_poly (A := A) h x with ⟨p, p1, p2, p3⟩ | ⟨p1, p2⟩
  · obtain ⟨o1, o2⟩ := ok_at (show G.1.2.1 < 2 ^ 31 by omega) p1
    rw [p3, ob_0, q_cv, q_cal, q_vn, p2, o1, if_pos rfl, o2]
    exact hk p p1 p2
  · rw [ok_no p1, if_neg (by decide)]
    refine c_ref h (by decide) ?_
    unfold refd at p2 ⊢
    rw [p2, ob_0, q_cv, q_car]
theorem x_row {p : Nat} (h : CI G S) (hp : p < G.1.2.1) : rowR G.1.1 S (7 + 2 + p) (G.1.2.2 p) ∧ qL A (7 + 2 + p) 64 ∧ p < 6 ∧ zar (qH A S) (7 + 1) (nI p) = some (7 + 2 + p) := by
  obtain ⟨h1, h2, h3, h4, h5, h6⟩ := h.2.1
  exact ⟨h6 p hp, ql_st (by decide) (by omega), by omega, ar_mx (by decide) (by omega)⟩
theorem oc_degree (h : CI G S) (x : Int32) : cOK A S (fX6_degree 0 x (qH A S)) (oRow G x (fun p => .int (dgF G.1.1 (G.1.2.2 p) (qF G.1.1 - 1)))) := by
  refine c_row h x (by unfold fX6_degree; rfl) (fun p hp e => ?_)
  obtain ⟨r1, r2, r3, r4⟩ := x_row (A := A) h hp
  obtain ⟨S', a1, a2⟩ := st_degree (A := A) h.2.1.1 h.1 r2 r1 (by omega)
  refine c_ret2 h a2 (fun b hb => by have : b = 116 := hb; omega) ?_
  rw [e, gr_0_6, q_bs, gr_0_1, q_bs, gr_st (by decide), q_bs, r4, q_bs, ob_113, q_cv, a1, q_cal, q_vi]
theorem oc_image (h : CI G S) (x : Int32) : cOK A S (fX6_image 0 x (qH A S)) (oRow G x (fun p => .int (nI (img (qF G.1.1) (G.1.2.2 p))))) := by
  have hz : S.1 1 2 = nI (qF G.1.1) := h.1.2.2.2.2.2.2.1
  refine c_row h x (by unfold fX6_image; rfl) (fun p hp e => ?_)
  obtain ⟨r1, r2, r3, r4⟩ := x_row (A := A) h hp
  refine c_ret h ?_
  rw [e, gr_0_6, q_bs, gr_0_1, q_bs, gr_st (by decide), q_bs, r4, q_bs, ob_113, q_cv, st_image h.2.1.1 hz r2 r1, q_cal, q_vi]
theorem oc_powers (h : CI G S) (x : Int32) : cOK A S (fX6_powers 0 x (qH A S)) (oRow G x (fun p => .int (if cnV (qF G.1.1) (G.1.2.2 p) 0 = 1 then pwsF G.1.1 (G.1.2.2 p) (qF G.1.1 - 2) 1 else 0))) := by
  refine c_row h x (by unfold fX6_powers; rfl) (fun p hp e => ?_)
  obtain ⟨r1, r2, r3, r4⟩ := x_row (A := A) h hp
  obtain ⟨S', a1, a2⟩ := st_powers (A := A) h.2.1.1 h.1 r2 r1 (by omega)
  refine c_ret2 h a2 (fun b hb => by have : b = 116 := hb; omega) ?_
  rw [e, gr_0_6, q_bs, gr_0_1, q_bs, gr_st (by decide), q_bs, r4, q_bs, ob_113, q_cv, a1, q_cal, q_vi]
theorem oc_spread (h : CI G S) (x : Int32) : cOK A S (fX6_spread 0 x (qH A S)) (oRow G x (fun p => .int (nI (spF G.1.1 (G.1.2.2 p) (qF G.1.1 - 1))))) := by
  refine c_row h x (by unfold fX6_spread; rfl) (fun p hp e => ?_)
  obtain ⟨r1, r2, r3, r4⟩ := x_row (A := A) h hp
  obtain ⟨S', a1, a2⟩ := st_spread (A := A) h.2.1.1 h.1 r2 r1 (by omega)
  refine c_ret2 h a2 (fun b hb => by have : b = 115 := hb; omega) ?_
  rw [e, gr_0_6, q_bs, gr_0_1, q_bs, gr_st (by decide), q_bs, r4, q_bs, ob_113, q_cv, a1, q_cal, q_vi]
theorem oc_permutes (h : CI G S) (x : Int32) : cOK A S (fX6_permutes 0 x (qH A S)) (oRow G x (fun p => .int (if pmB (qF G.1.1) (G.1.2.2 p) = true then 1 else 0))) := by
  have hz : S.1 1 2 = nI (qF G.1.1) := h.1.2.2.2.2.2.2.1
  refine c_row h x (by unfold fX6_permutes; rfl) (fun p hp e => ?_)
  obtain ⟨r1, r2, r3, r4⟩ := x_row (A := A) h hp
  refine c_ret h ?_
  rw [e, gr_0_6, q_bs, gr_0_1, q_bs, gr_st (by decide), q_bs, r4, q_bs, ob_113, q_cv, st_perm h.2.1.1 hz r2 r1, q_cal, q_vi]
  by_cases c : pmB (qF G.1.1) (G.1.2.2 p) = true
  · rw [if_neg (by rw [q_pm0]; exact fun h => h c), if_pos c]
  · rw [if_pos (by rw [q_pm0]; exact c), if_neg c]
end QY
