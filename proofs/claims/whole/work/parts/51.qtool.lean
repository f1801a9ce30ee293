/-! rewriting of pure steps; loops -/
theorem q_cal {v : Option Value} {h : AH} {K : Option Value → AH → RR} : zca (some (.inl v, h)) K = K v h := q_mk rfl
theorem q_car {e : Nat} {h : AH} {K : Option Value → AH → RR} : zca (some (.inr e, h)) K = some (.inr e, h) := q_mk rfl
theorem q_cv {o : RR} {K : Option Value → AH → RR} : zcv true o K = zca o K := q_mk rfl
theorem q_vi {x : Int32} {K : Int32 → RR} : zvi (some (.int x)) K = K x := q_mk rfl
theorem q_vj {x : Int64} {K : Int64 → RR} : zvj (some (.long x)) K = K x := q_mk rfl
theorem q_vr {x : Nat} {K : Nat → RR} : zvr (some (.ref x)) K = K x := q_mk rfl
theorem q_vn {K : RR} : zvn none K = K := q_mk rfl
theorem q_b2 {a : Nat} {h : AH} {K : Nat → AH → RR} : zb2 (some (a, h)) K = K a h := q_mk rfl
theorem q_let {x : Int32} {K : Int32 → RR} : zlet x K = K x := q_mk rfl
theorem q_letJ {x : Int64} {K : Int64 → RR} : zletJ x K = K x := q_mk rfl
theorem q_bs {α β : Type} {x : α} {f : α → Option β} : (some x).bind f = f x := q_mk rfl
theorem q_modN (a d : Nat) : a - a / d * d = a % d := by
  have := Nat.div_add_mod a d
  rw [Nat.mul_comm] at this
  omega
theorem q_rem {a d : Nat} : nI a - nI (a / d * d) = nI (a % d) := by
  rw [pk_sub (Nat.div_mul_le_self a d), q_modN]
def itr {σ : Type} (B : Nat → σ → σ) : Nat → Nat → σ → σ
  | _, 0, s => s
  | i, d + 1, s => itr B (i + 1) d (B i s)
theorem itr_succ {σ : Type} (B : Nat → σ → σ) : ∀ d i s, itr B i (d + 1) s = B (i + d) (itr B i d s) := by
  intro d
  induction d with
  | zero => intro i s; rfl
  | succ d ih =>
    intro i s
    rw [itr, ih, itr, show i + 1 + d = i + (d + 1) by omega]
theorem loopL {R σ : Type} (f : Nat → Nat → σ → R) (E : σ → R) (q : Nat) (P : Nat → σ → Prop) (B : Nat → σ → σ)
    (hs : ∀ k i s, i < q → P i s → f (k + 1) i s = f k (i + 1) (B i s)) (hp : ∀ i s, i < q → P i s → P (i + 1) (B i s)) (he : ∀ k s, P q s → f (k + 1) q s = E s) :
    ∀ d i k s, i + d = q → d < k → P i s → f k i s = E (itr B i d s) ∧ P q (itr B i d s) := by
  intro d
  induction d with
  | zero =>
    intro i k s h1 h2 h3
    obtain ⟨k, rfl⟩ : ∃ k', k = k' + 1 := ⟨k - 1, by omega⟩
    have : i = q := by omega
    subst this
    exact ⟨he k s h3, h3⟩
  | succ d ih =>
    intro i k s h1 h2 h3
    obtain ⟨k, rfl⟩ : ∃ k', k = k' + 1 := ⟨k - 1, by omega⟩
    rw [hs k i s (by omega) h3]
    exact ih (i + 1) k (B i s) (by omega) (by omega) (hp i s (by omega) h3)
/-- a loop told by what it comes to -/
theorem loopP {R σ : Type} (f : Nat → Nat → σ → R) (q : Nat) (P : Nat → σ → Prop) (r : R → Prop)
    (hs : ∀ k i s, i < q → P i s → ∃ s', P (i + 1) s' ∧ f (k + 1) i s = f k (i + 1) s') (he : ∀ k s, P q s → r (f (k + 1) q s)) :
    ∀ d i k s, i + d = q → d < k → P i s → r (f k i s) := by
  intro d
  induction d with
  | zero =>
    intro i k s h1 h2 h3
    obtain ⟨k, rfl⟩ : ∃ k', k = k' + 1 := ⟨k - 1, by omega⟩
    have : i = q := by omega
    subst this
    exact he k s h3
  | succ d ih =>
    intro i k s h1 h2 h3
    obtain ⟨k, rfl⟩ : ∃ k', k = k' + 1 := ⟨k - 1, by omega⟩
    obtain ⟨s', h4, h5⟩ := hs k i s (by omega) h3
    rw [h5]
    exact ih (i + 1) k s' (by omega) (by omega) h4
/-- all but these places as before -/
def eqo (X : Nat → Prop) (S S' : SS) : Prop := (∀ b, ¬ X b → S'.1 b = S.1 b ∧ S'.2.1 b = S.2.1 b) ∧ S'.2.2 = S.2.2
theorem eqo.rf {X : Nat → Prop} {S : SS} : eqo X S S := ⟨fun _ _ => ⟨rfl, rfl⟩, rfl⟩
theorem eqo.tr {X : Nat → Prop} {S S' S'' : SS} (h : eqo X S S') (h' : eqo X S' S'') : eqo X S S'' := ⟨fun b hb => ⟨(h'.1 b hb).1.trans (h.1 b hb).1, (h'.1 b hb).2.trans (h.1 b hb).2⟩, h'.2.trans h.2⟩
theorem eqo.mo {X Y : Nat → Prop} {S S' : SS} (h : eqo X S S') (hXY : ∀ b, X b → Y b) : eqo Y S S' := ⟨fun b hb => h.1 b (fun hx => hb (hXY b hx)), h.2⟩
theorem eqo.us {X : Nat → Prop} {S : SS} {a k : Nat} {v : Int32} (h : X a) : eqo X S (us S a k v) := ⟨fun b hb => ⟨if_neg (fun e : b = a => hb (e ▸ h)), rfl⟩, rfl⟩
theorem eqo.uA {X : Nat → Prop} {S : SS} {a : Nat} {g : Nat → Int32} (h : X a) : eqo X S (uA S a g) := ⟨fun b hb => ⟨rfl, if_neg (fun e : b = a => hb (e ▸ h))⟩, rfl⟩
theorem eqo.ua {X : Nat → Prop} {S : SS} {a i : Nat} {v : Int32} (h : X a) : eqo X S (ua S a i v) := eqo.uA h
theorem uA_at {S : SS} {a : Nat} {g : Nat → Int32} : (uA S a g).2.1 a = g := if_pos rfl
theorem uA_ne {S : SS} {a b : Nat} {g : Nat → Int32} (h : b ≠ a) : (uA S a g).2.1 b = S.2.1 b := if_neg h
theorem ua_at {S : SS} {a i : Nat} {v : Int32} (j : Nat) : (ua S a i v).2.1 a j = if j = i then v else S.2.1 a j := by
  unfold ua; rw [uA_at]; rfl
theorem ua_ne {S : SS} {a b i : Nat} {v : Int32} (h : b ≠ a) : (ua S a i v).2.1 b = S.2.1 b := if_neg h
theorem ua_s {S : SS} {a i : Nat} {v : Int32} : (ua S a i v).1 = S.1 := q_mk rfl
theorem uA_s {S : SS} {a : Nat} {g : Nat → Int32} : (uA S a g).1 = S.1 := q_mk rfl
theorem us_r {S : SS} {a k : Nat} {v : Int32} : (us S a k v).2 = S.2 := q_mk rfl
theorem us_at {S : SS} {a k : Nat} {v : Int32} (j : Nat) : (us S a k v).1 a j = if j = k then v else S.1 a j := by
  unfold us; show (if a = a then _ else _ : Nat → Int32) j = _; rw [if_pos rfl]; rfl
theorem us_ne {S : SS} {a b k : Nat} {v : Int32} (h : b ≠ a) : (us S a k v).1 b = S.1 b := if_neg h
