/-! texts: what they say -/
abbrev PR (α : Type) : Type := (Nat × Nat) ⊕ α
abbrev RW : Type := Nat → Nat
def bnd {α β : Type} (x : PR α) (g : α → PR β) : PR β := match x with
  | .inl e => .inl e
  | .inr a => g a
noncomputable def seeN (b : Nat → Nat) (n p lim : Nat) : PR Nat := if kd b n p = 1 then (if nv b n p < lim then .inr (nv b n p) else .inl (2, p)) else .inl (1, p)
section QTE
variable (b : Nat → Nat) (n f c : Nat) (W : Nat → Nat → Nat)
noncomputable def pUn (br : Nat → PR (RW × Nat)) (p : Nat) : PR (RW × Nat) :=
  if kd b n p = 1 then bnd (seeN b n p (qF f)) (fun v => .inr (fun _ => v, nx b n p))
  else if kd b n p = 4 then .inr (fun s => s, nx b n p)
  else if kd b n p = 5 then bnd (seeN b n (nx b n p) c) (fun j => bnd (br (nx b n (nx b n p))) (fun r => .inr (fun s => W j (r.1 s), r.2)))
  else if kd b n p = 6 then bnd (seeN b n (nx b n p) 10000) (fun m => bnd (seeN b n (nx b n (nx b n p)) (qF f)) (fun a => .inr (fun s => dk f a s m, nx b n (nx b n (nx b n p)))))
  else if kd b n p = 40 then br p
  else .inl (1, p)
noncomputable def pPw (r : RW × Nat) : PR (RW × Nat) := if kd b n r.2 = 94 then bnd (seeN b n (nx b n r.2) 10000) (fun e => .inr (fun s => pw f (r.1 s) e, nx b n (nx b n r.2))) else .inr r
noncomputable def pU (br : Nat → PR (RW × Nat)) (p : Nat) : PR (RW × Nat) := bnd (pUn b n f c W br p) (pPw b n f)
noncomputable def pPL (br : Nat → PR (RW × Nat)) : Nat → RW × Nat → PR (RW × Nat)
  | 0, r => .inr r
  | k + 1, r => if kd b n r.2 = 42 then bnd (pU b n f c W br (nx b n r.2)) (fun r' => pPL br k (fun s => mu f (r.1 s) (r'.1 s), r'.2)) else .inr r
noncomputable def pP (br : Nat → PR (RW × Nat)) (p : Nat) : PR (RW × Nat) := bnd (pU b n f c W br p) (pPL b n f c W br 300)
noncomputable def pSL (br : Nat → PR (RW × Nat)) : Nat → RW × Nat → PR (RW × Nat)
  | 0, r => .inr r
  | k + 1, r => if kd b n r.2 = 43 then bnd (pP b n f c W br (nx b n r.2)) (fun r' => pSL br k (fun s => ad f (r.1 s) (r'.1 s), r'.2)) else if kd b n r.2 = 45 then bnd (pP b n f c W br (nx b n r.2)) (fun r' => pSL br k (fun s => ad f (r.1 s) (ng f (r'.1 s)), r'.2)) else .inr r
noncomputable def pS (br : Nat → PR (RW × Nat)) (p : Nat) : PR (RW × Nat) := bnd (pP b n f c W br p) (pSL b n f c W br 300)
noncomputable def pBr : Nat → Nat → PR (RW × Nat)
  | 0, p => if kd b n p = 40 then .inl (4, p) else .inl (1, p)
  | r + 1, p => if kd b n p = 40 then bnd (pS b n f c W (pBr r) (nx b n p)) (fun r' => if kd b n r'.2 = 41 then .inr (r'.1, nx b n r'.2) else .inl (1, r'.2)) else .inl (1, p)
end QTE
/-! the component's reader -/
def rOK (b : Nat → Nat) (n f : Nat) (A : AS) (S : SS) (X : Nat → Prop) (row : Nat) (o : RR) (res : PR (RW × Nat)) : Prop := ∃ S', eqo X S S' ∧ (match res with | .inl e => S'.1 94 0 = nI e.1 ∧ S'.1 94 1 = nI e.2 ∧ o = some (.inl (some (.int 0)), qH A S') | .inr r => S'.1 94 = S.1 94 ∧ TP b n S' r.2 ∧ rowR f S' row r.1 ∧ o = some (.inl (some (.int 1)), qH A S'))
def RC (b : Nat → Nat) (n f c : Nat) (W : Nat → Nat → Nat) (S : SS) : Prop := n ≤ 300 ∧ (∀ i, i < n → b i < 256) ∧ TabC f S ∧ stR S 15 (f, c, W) ∧ TX b n S
def Xu (d x : Nat) : Prop := x = 89 ∨ x = 94 ∨ (96 + d < x ∧ x ≤ 100) ∨ (102 + d < x ∧ x ≤ 106) ∨ (108 + d ≤ x ∧ x ≤ 112)
def Xp (d x : Nat) : Prop := x = 89 ∨ x = 94 ∨ (96 + d < x ∧ x ≤ 100) ∨ (102 + d ≤ x ∧ x ≤ 106) ∨ (108 + d ≤ x ∧ x ≤ 112)
def Xs (d x : Nat) : Prop := x = 89 ∨ x = 94 ∨ (96 + d ≤ x ∧ x ≤ 100) ∨ (102 + d ≤ x ∧ x ≤ 106) ∨ (108 + d ≤ x ∧ x ≤ 112)
theorem xu_p {d x : Nat} (h : Xu d x) : Xp d x := by unfold Xu at h; unfold Xp; omega
theorem xp_s {d x : Nat} (h : Xp d x) : Xs d x := by unfold Xp at h; unfold Xs; omega
theorem xs_in {d x : Nat} (h : Xs d x) : x = 89 ∨ (94 ≤ x ∧ x ≤ 112) := by unfold Xs at h; omega
theorem rc_eqo {b : Nat → Nat} {n f c : Nat} {W : Nat → Nat → Nat} {S S' : SS} {X : Nat → Prop} (h : RC b n f c W S) (hX : eqo X S S') (hn : ∀ x, X x → x = 89 ∨ (94 ≤ x ∧ x ≤ 112)) : RC b n f c W S' := by
  obtain ⟨h1, h2, h3, h4, h5⟩ := h
  exact ⟨h1, h2, h3.eqo hX (fun r _ hr hx => by have := hn r hx; omega), h4.eqo hX (fun r _ hr hx => by have := hn r hx; omega), h5.eqo hX (fun r hr hx => by have := hn r hx; omega)⟩
theorem ro_ok : ∀ d, d < 5 → row64 (95 + 1 + d) = true ∧ row64 (101 + 1 + d) = true ∧ row64 (107 + 1 + d) = true := by decide
section QTF
variable {A : AS} {S : SS} {b : Nat → Nat} {n f c p : Nat} {W : Nat → Nat → Nat}
theorem r_refuse (hp : TP b n S p) (k : Int32) : fX2_refuse 94 k (qH A S) = some (.inl (some (.int 0)), qH A (us (us S 94 0 k) 94 1 (nI p))) := by
  obtain ⟨i, -, -, -, -, c5, -⟩ := hp
  unfold fX2_refuse
  have e : (us S 94 0 k).1 89 2 = nI p := by rw [us_ne (by decide)]; exact c5
  rw [pi_94_0, q_bs, gr_94_2, q_bs, gi_89_2, q_bs, e, pi_94_1, q_bs, z_br0]
/-- a refusal -/
theorem r_no (hp : TP b n S p) {k : Nat} {X : Nat → Prop} (hX : X 94) {row : Nat} {o : RR} (ho : o = some (.inl (some (.int 0)), qH A (us (us S 94 0 (nI k)) 94 1 (nI p)))) : rOK b n f A S X row o (.inl (k, p)) :=
  ⟨us (us S 94 0 (nI k)) 94 1 (nI p), (eqo.us hX).tr (eqo.us hX), by rw [us_at, if_neg (by decide), us_at, if_pos rfl], by rw [us_at, if_pos rfl], ho⟩
theorem r_tr {S1 : SS} {X : Nat → Prop} {row : Nat} {o : RR} {res : PR (RW × Nat)} (hX : eqo X S S1) (h4 : S1.1 94 = S.1 94) (h : rOK b n f A S1 X row o res) : rOK b n f A S X row o res := by
  obtain ⟨S', a1, a2⟩ := h
  cases res with
  | inl e => exact ⟨S', hX.tr a1, a2⟩
  | inr r => exact ⟨S', hX.tr a1, a2.1.trans h4, a2.2⟩
theorem r_mo {X Y : Nat → Prop} {row : Nat} {o : RR} {res : PR (RW × Nat)} (hXY : ∀ x, X x → Y x) (h : rOK b n f A S X row o res) : rOK b n f A S Y row o res := by
  obtain ⟨S', a1, a2⟩ := h
  exact ⟨S', a1.mo hXY, a2⟩
/-- a number is seen, or it is refused -/
theorem r_see (hb : ∀ i, i < n → b i < 256) (hp : TP b n S p) {lim : Nat} {m : Int32} (hm : m.toInt = (lim : Int) - 1) (hlim : lim ≤ 10000) : (∃ v, seeN b n p lim = .inr v ∧ v < lim ∧ kd b n p = 1 ∧ S.1 89 3 = nI v ∧ fX2_seeNumber 94 m (qH A S) = some (.inl (some (.int 1)), qH A S)) ∨ (∃ k, seeN b n p lim = .inl (k, p) ∧ fX2_seeNumber 94 m (qH A S) = some (.inl (some (.int 0)), qH A (us (us S 94 0 (nI k)) 94 1 (nI p)))) := by
  have hp0 := hp
  obtain ⟨i, -, -, -, c4, c5, c6⟩ := hp
  have hk := kd_256 (n := n) (p := p) hb
  have fx1 : ¬ kd b n p = 1 → fX2_seeNumber 94 m (qH A S) = some (.inl (some (.int 0)), qH A (us (us S 94 0 (nI 1)) 94 1 (nI p))) := fun c1 => by
    unfold fX2_seeNumber
    rw [gr_94_2, q_bs, gi_89_1, q_bs, c4, if_neg (by rw [qlit, nI_eq (by omega) (by decide)]; exact c1), ob_94, q_cv, r_refuse hp0, q_cal, q_vi, z_br0]
    rfl
  have fx2 : kd b n p = 1 → fX2_seeNumber 94 m (qH A S) = if nI (min (nv b n p) 1000000) ≤ m then some (.inl (some (.int 1)), qH A S) else some (.inl (some (.int 0)), qH A (us (us S 94 0 (nI 2)) 94 1 (nI p))) := fun c1 => by
    unfold fX2_seeNumber
    rw [gr_94_2, q_bs, gi_89_1, q_bs, c4, if_pos (by rw [c1]; rfl), q_bs, gi_89_3, q_bs, c6 c1, z_br1, ob_94, q_cv, r_refuse hp0, q_cal, q_vi, if_pos rfl, z_br0]
    rfl
  unfold seeN
  by_cases c1 : kd b n p = 1
  · rw [fx2 c1, if_pos c1]
    have c7 := c6 c1
    by_cases c2 : nv b n p < lim
    · left
      have hmin : min (nv b n p) 1000000 = nv b n p := by omega
      rw [hmin] at c7
      rw [if_pos c2, hmin, if_pos (by rw [Int32.le_iff_toInt_le, nI_toInt (by omega), hm]; omega)]
      exact ⟨_, rfl, c2, c1, c7, rfl⟩
    · right
      rw [if_neg c2, if_neg (by rw [Int32.le_iff_toInt_le, nI_toInt (by omega), hm]; omega)]
      exact ⟨2, rfl, rfl⟩
  · right
    rw [fx1 c1, if_neg c1]
    exact ⟨1, rfl, rfl⟩
/-- rows copied -/
theorem row_cp {x y : Nat} {R : Nat → Nat} (hf : f < nF) (h : rowR f S x R) : rowR f (uA S y (fun j => if j < 64 then S.2.1 x j else S.2.1 y j)) y R := fun s hs => by
  have hq := qz hf
  rw [uA_at]
  show (if s < 64 then _ else _) = _ ∧ _
  rw [if_pos (by omega)]
  exact h s hs
theorem r_point (hC : RC b n f c W S) (hp : TP b n S p) {r : Nat} (lr : qL A r 64) (n1 : r ≠ 89) (n4 : r ≠ 1) (hrr : 94 ≤ r ∧ r ≤ 112) : rOK b n f A S (fun x => x = 89 ∨ x = 94 ∨ x = r) r (fX2_readPoint 94 r (qH A S)) (bnd (seeN b n p (qF f)) (fun v => .inr (fun _ => v, nx b n p))) := by
  obtain ⟨h1, h2, h3, h4, h5⟩ := hC
  have hf : f < nF := h4.1
  have hq := qz hf
  have hz : S.1 1 2 = nI (qF f) := h3.2.2.2.2.2.2.1
  unfold fX2_readPoint
  rw [gr_94_3, q_bs, gi_1_2, q_bs, hz, ob_94, q_cv]
  rcases r_see (A := A) h2 hp (lim := qF f) (m1_int (by omega)) (by omega) with ⟨v, s1, s2, s3, s4, s5⟩ | ⟨k, s1, s2⟩
  · rw [s1, s5, q_cal, q_vi, if_neg (by decide)]
    let T := uA S r (fa_fill (fun _ => nI v) (S.2.1 r) (qF f))
    have eT : eqo (fun x => x = r) S T := eqo.uA (X := fun x => x = r) rfl
    obtain ⟨S', a1, a2, a3⟩ := t_step (A := A) (S := T) h1 h2 (h5.eqo eT (fun x hx (hr : x = r) => by omega)) (hp.eqo eT (fun h => n1 h.symm)) (by omega)
    refine ⟨S', (eT.mo (fun x hx => Or.inr (Or.inr hx))).tr (a3.mo (fun x hx => Or.inl hx)), (a3.1 94 (by decide)).1, a2, (rowR.fill (fun x _ => s2)).eqo a3 n1, ?_⟩
    have hl := loopF0 (fun k i s => fX2_readPoint_20 k 94 r (nI i) (qH A s)) (qF f) (fun i => uA S r (fa_fill (fun _ => nI v) (S.2.1 r) i)) (some (.inl (some (.int 1)), qH A S')) (by omega) ?_ ?_
    · rw [fa_fill_0, uA_self] at hl
      exact hl
    · intro k i hi
      show fX2_readPoint_20 (k + 1) 94 r (nI i) (qH A _) = _
      rw [fX2_readPoint_20, gr_94_3, q_bs, gi_1_2, q_bs, uA_s, hz, if_neg (by rw [nI_leI (by omega) (by omega)]; omega), gr_94_2, q_bs, gi_89_3, q_bs, uA_s, s4, q_si lr (by omega), q_bs, uaA, nI_1]
      rw [show upd (fa_fill (fun _ => nI v) (S.2.1 r) i) i (nI v) = fa_fill (fun _ => nI v) (S.2.1 r) (i + 1) from fa_fill_succ (fun _ => nI v) (S.2.1 r) i]
    · intro k
      show fX2_readPoint_20 (k + 1) 94 r (nI (qF f)) (qH A _) = _
      rw [fX2_readPoint_20, gr_94_3, q_bs, gi_1_2, q_bs, uA_s, hz, if_pos (by rw [nI_leI (by omega) (by omega)]; exact Nat.le_refl _), gr_94_2, q_bs, ob_89, q_cv, a1, q_cal, q_vn, z_br1]
  · rw [s1, s2, q_cal, q_vi, if_pos rfl, z_br0]
    exact r_no hp (Or.inr (Or.inl rfl)) rfl
theorem r_x (hC : RC b n f c W S) (hp : TP b n S p) (hk : kd b n p ≠ 0) {r : Nat} (lr : qL A r 64) (n1 : r ≠ 89) (hrr : 94 ≤ r ∧ r ≤ 112) : rOK b n f A S (fun x => x = 89 ∨ x = 94 ∨ x = r) r (fX2_readX 94 r (qH A S)) (.inr (fun s => s, nx b n p)) := by
  obtain ⟨h1, h2, h3, h4, h5⟩ := hC
  have hf : f < nF := h4.1
  have hq := qz hf
  have hz : S.1 1 2 = nI (qF f) := h3.2.2.2.2.2.2.1
  let T := uA S r (fa_fill (fun s => nI s) (S.2.1 r) (qF f))
  have eT : eqo (fun x => x = r) S T := eqo.uA (X := fun x => x = r) rfl
  obtain ⟨S', a1, a2, a3⟩ := t_step (A := A) (S := T) h1 h2 (h5.eqo eT (fun x hx (hr : x = r) => by omega)) (hp.eqo eT (fun h => n1 h.symm)) hk
  refine ⟨S', (eT.mo (fun x hx => Or.inr (Or.inr hx))).tr (a3.mo (fun x hx => Or.inl hx)), (a3.1 94 (by decide)).1, a2, (rowR.fill (fun x hx => hx)).eqo a3 n1, ?_⟩
  unfold fX2_readX
  have hl := loopF0 (fun k i s => fX2_readX_2 k 94 r (nI i) (qH A s)) (qF f) (fun i => uA S r (fa_fill (fun s => nI s) (S.2.1 r) i)) (some (.inl (some (.int 1)), qH A S')) (by omega) ?_ ?_
  · rw [fa_fill_0, uA_self] at hl
    exact hl
  · intro k i hi
    show fX2_readX_2 (k + 1) 94 r (nI i) (qH A _) = _
    rw [fX2_readX_2, gr_94_3, q_bs, gi_1_2, q_bs, uA_s, hz, if_neg (by rw [nI_leI (by omega) (by omega)]; omega), q_si lr (by omega), q_bs, uaA, nI_1]
    rw [show upd (fa_fill (fun s => nI s) (S.2.1 r) i) i (nI i) = fa_fill (fun s => nI s) (S.2.1 r) (i + 1) from fa_fill_succ (fun s => nI s) (S.2.1 r) i]
  · intro k
    show fX2_readX_2 (k + 1) 94 r (nI (qF f)) (qH A _) = _
    rw [fX2_readX_2, gr_94_3, q_bs, gi_1_2, q_bs, uA_s, hz, if_pos (by rw [nI_leI (by omega) (by omega)]; exact Nat.le_refl _), gr_94_2, q_bs, ob_89, q_cv, a1, q_cal, q_vn, z_br1]
theorem r_power (hC : RC b n f c W S) (hp : TP b n S p) (hk : kd b n p ≠ 0) {r : Nat} {R : Nat → Nat} (hR : rowR f S r R) (lr : qL A r 64) (n1 : r ≠ 89) (n2 : r ≠ 94) (hrr : 94 ≤ r ∧ r ≤ 112) : rOK b n f A S (fun x => x = 89 ∨ x = 94 ∨ x = r) r (fX2_readPower 94 r (qH A S)) (bnd (seeN b n (nx b n p) 10000) (fun e => .inr (fun s => pw f (R s) e, nx b n (nx b n p)))) := by
  have hC0 := hC
  obtain ⟨h1, h2, h3, h4, h5⟩ := hC
  have hf : f < nF := h4.1
  have hq := qz hf
  obtain ⟨S1, a1, a2, a3⟩ := t_step (A := A) h1 h2 h5 hp hk
  have hC1 := rc_eqo hC0 a3 (fun x (hx : x = 89) => Or.inl hx)
  obtain ⟨-, -, g3, -, g5⟩ := hC1
  have hz : S1.1 1 2 = nI (qF f) := g3.2.2.2.2.2.2.1
  have hR1 : rowR f S1 r R := hR.eqo a3 n1
  refine r_tr (a3.mo (fun x hx => Or.inl hx)) (a3.1 94 (by decide)).1 ?_
  unfold fX2_readPower
  rw [gr_94_2, q_bs, ob_89, q_cv, a1, q_cal, q_vn, ob_94, q_cv]
  rcases r_see (A := A) h2 a2 (lim := 10000) (m := 9999) (by decide) (by decide) with ⟨v, s1, s2, s3, s4, s5⟩ | ⟨k, s1, s2⟩
  · rw [s1, s5, q_cal, q_vi, if_neg (by decide)]
    have hlt : ∀ x, x < qF f → pw f (R x) v < qF f := fun x hx => pw_lt hf (hR1 x hx).2 v
    let T := uA S1 r (fa_fill (fun s => nI (pw f (R s) v)) (S1.2.1 r) (qF f))
    have eT : ∀ i, eqo (fun x => x = r) S1 (uA S1 r (fa_fill (fun s => nI (pw f (R s) v)) (S1.2.1 r) i)) := fun i => eqo.uA (X := fun x => x = r) rfl
    obtain ⟨S', b1, b2, b3⟩ := t_step (A := A) (S := T) h1 h2 (g5.eqo (eT _) (fun x hx (hr : x = r) => by omega)) (a2.eqo (eT _) (fun h => n1 h.symm)) (by omega)
    refine ⟨S', ((eT _).mo (fun x hx => Or.inr (Or.inr hx))).tr (b3.mo (fun x hx => Or.inl hx)), (b3.1 94 (by decide)).1, b2, (rowR.fill hlt).eqo b3 n1, ?_⟩
    have hl := loopF0 (fun k i s => fX2_readPower_21 k 94 r (nI i) (qH A s)) (qF f) (fun i => uA S1 r (fa_fill (fun s => nI (pw f (R s) v)) (S1.2.1 r) i)) (some (.inl (some (.int 1)), qH A S')) (by omega) ?_ ?_
    · rw [fa_fill_0, uA_self] at hl
      exact hl
    · intro k i hi
      have hTab : TabC f (uA S1 r (fa_fill (fun s => nI (pw f (R s) v)) (S1.2.1 r) i)) := g3.uA (by omega)
      have hri : (uA S1 r (fa_fill (fun s => nI (pw f (R s) v)) (S1.2.1 r) i)).2.1 r i = nI (R i) := by rw [uA_at, fa_fill_out (Nat.le_refl _)]; exact (hR1 i hi).1
      show fX2_readPower_21 (k + 1) 94 r (nI i) (qH A _) = _
      rw [fX2_readPower_21, gr_94_3, q_bs, gi_1_2, q_bs, uA_s, hz, if_neg (by rw [nI_leI (by omega) (by omega)]; omega), q_bs, q_ai lr (by omega), q_bs, hri, gr_94_2, q_bs, gi_89_3, q_bs, uA_s, s4, ob_1, q_cv, tc_raised hf hTab (by omega) (hR1 i hi).2, q_cal, q_vi, q_si lr (by omega), q_bs, uaA, nI_1]
      rw [show upd (fa_fill (fun s => nI (pw f (R s) v)) (S1.2.1 r) i) i (nI (pw f (R i) v)) = fa_fill (fun s => nI (pw f (R s) v)) (S1.2.1 r) (i + 1) from fa_fill_succ (fun s => nI (pw f (R s) v)) (S1.2.1 r) i]
    · intro k
      show fX2_readPower_21 (k + 1) 94 r (nI (qF f)) (qH A _) = _
      rw [fX2_readPower_21, gr_94_3, q_bs, gi_1_2, q_bs, uA_s, hz, if_pos (by rw [nI_leI (by omega) (by omega)]; exact Nat.le_refl _), gr_94_2, q_bs, ob_89, q_cv, b1, q_cal, q_vn, z_br1]
  · rw [s1, s2, q_cal, q_vi, if_pos rfl, z_br0]
    exact r_no a2 (Or.inr (Or.inl rfl)) rfl
theorem r_dick (hC : RC b n f c W S) (hp : TP b n S p) (hk : kd b n p ≠ 0) {r : Nat} (lr : qL A r 64) (n1 : r ≠ 89) (hrr : 94 ≤ r ∧ r ≤ 112) : rOK b n f A S (fun x => x = 89 ∨ x = 94 ∨ x = r) r (fX2_readDickson 94 r (qH A S)) (bnd (seeN b n (nx b n p) 10000) (fun m => bnd (seeN b n (nx b n (nx b n p)) (qF f)) (fun a => .inr (fun s => dk f a s m, nx b n (nx b n (nx b n p)))))) := by
  have hC0 := hC
  obtain ⟨h1, h2, h3, h4, h5⟩ := hC
  have hf : f < nF := h4.1
  have hq := qz hf
  obtain ⟨S1, a1, a2, a3⟩ := t_step (A := A) h1 h2 h5 hp hk
  have hC1 := rc_eqo hC0 a3 (fun x (hx : x = 89) => Or.inl hx)
  refine r_tr (a3.mo (fun x hx => Or.inl hx)) (a3.1 94 (by decide)).1 ?_
  unfold fX2_readDickson
  rw [gr_94_2, q_bs, ob_89, q_cv, a1, q_cal, q_vn, ob_94, q_cv]
  rcases r_see (A := A) h2 a2 (lim := 10000) (m := 9999) (by decide) (by decide) with ⟨m, s1, s2, s3, s4, s5⟩ | ⟨k, s1, s2⟩
  · obtain ⟨S2, b1, b2, b3⟩ := t_step (A := A) h1 h2 hC1.2.2.2.2 a2 (by omega)
    obtain ⟨-, -, g3, -, g5⟩ := rc_eqo hC1 b3 (fun x (hx : x = 89) => Or.inl hx)
    have hz : S2.1 1 2 = nI (qF f) := g3.2.2.2.2.2.2.1
    rw [s1, s5, q_cal, q_vi, if_neg (by decide), gr_94_2, q_bs, gi_89_3, q_bs, s4, q_bs, ob_89, q_cv, b1, q_cal, q_vn, gr_94_3, q_bs, gi_1_2, q_bs, hz, ob_94, q_cv]
    refine r_tr (b3.mo (fun x hx => Or.inl hx)) (b3.1 94 (by decide)).1 ?_
    show rOK b n f A S2 _ r _ (bnd (seeN b n (nx b n (nx b n p)) (qF f)) (fun a => .inr (fun s => dk f a s m, nx b n (nx b n (nx b n p)))))
    rcases r_see (A := A) h2 b2 (lim := qF f) (m1_int (by omega)) (by omega) with ⟨v, t1, t2, t3, t4, t5⟩ | ⟨k, t1, t2⟩
    · rw [t1, t5, q_cal, q_vi, if_neg (by decide)]
      have hlt : ∀ x, x < qF f → dk f v x m < qF f := fun x hx => dk_lt hf t2 hx m
      let T := uA S2 r (fa_fill (fun s => nI (dk f v s m)) (S2.2.1 r) (qF f))
      have eT : ∀ i, eqo (fun x => x = r) S2 (uA S2 r (fa_fill (fun s => nI (dk f v s m)) (S2.2.1 r) i)) := fun i => eqo.uA (X := fun x => x = r) rfl
      obtain ⟨S', d1, d2, d3⟩ := t_step (A := A) (S := T) h1 h2 (g5.eqo (eT _) (fun x hx (hr : x = r) => by omega)) (b2.eqo (eT _) (fun h => n1 h.symm)) (by omega)
      refine ⟨S', ((eT _).mo (fun x hx => Or.inr (Or.inr hx))).tr (d3.mo (fun x hx => Or.inl hx)), (d3.1 94 (by decide)).1, d2, (rowR.fill hlt).eqo d3 n1, ?_⟩
      have hl := loopF0 (fun k i s => fX2_readDickson_54 k 94 r (nI m) (nI i) (qH A s)) (qF f) (fun i => uA S2 r (fa_fill (fun s => nI (dk f v s m)) (S2.2.1 r) i)) (some (.inl (some (.int 1)), qH A S')) (by omega) ?_ ?_
      · rw [fa_fill_0, uA_self] at hl
        exact hl
      · intro k i hi
        have hTab : TabC f (uA S2 r (fa_fill (fun s => nI (dk f v s m)) (S2.2.1 r) i)) := g3.uA (by omega)
        show fX2_readDickson_54 (k + 1) 94 r (nI m) (nI i) (qH A _) = _
        rw [fX2_readDickson_54, gr_94_3, q_bs, gi_1_2, q_bs, uA_s, hz, if_neg (by rw [nI_leI (by omega) (by omega)]; omega), q_bs, gr_94_2, q_bs, gi_89_3, q_bs, uA_s, t4, ob_1, q_cv, tc_dickson hf hTab (by omega) t2 hi, q_cal, q_vi, q_si lr (by omega), q_bs, uaA, nI_1]
        rw [show upd (fa_fill (fun s => nI (dk f v s m)) (S2.2.1 r) i) i (nI (dk f v i m)) = fa_fill (fun s => nI (dk f v s m)) (S2.2.1 r) (i + 1) from fa_fill_succ (fun s => nI (dk f v s m)) (S2.2.1 r) i]
      · intro k
        show fX2_readDickson_54 (k + 1) 94 r (nI m) (nI (qF f)) (qH A _) = _
        rw [fX2_readDickson_54, gr_94_3, q_bs, gi_1_2, q_bs, uA_s, hz, if_pos (by rw [nI_leI (by omega) (by omega)]; exact Nat.le_refl _), gr_94_2, q_bs, ob_89, q_cv, d1, q_cal, q_vn, z_br1]
    · rw [t1, t2, q_cal, q_vi, if_pos rfl, z_br0]
      exact r_no b2 (Or.inr (Or.inl rfl)) rfl
  · rw [s1, s2, q_cal, q_vi, if_pos rfl, z_br0]
    exact r_no a2 (Or.inr (Or.inl rfl)) rfl
end QTF
