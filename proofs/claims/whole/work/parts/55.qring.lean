/-! laws of the fields -/
theorem ex0 : ∀ f, f < nF → exF f 0 = 1 := by decide +kernel
theorem mu_comm {f a b : Nat} (hf : f < nF) (ha : a < qF f) (hb : b < qF f) : mu f a b = mu f b a := by
  rcases mu_ex hf ha hb with (h | h) | h
  · subst h; rw [(mu_0 hf hb).1.1.1, (mu_0 hf hb).1.1.2]
  · subst h; rw [(mu_0 hf ha).1.1.1, (mu_0 hf ha).1.1.2]
  · rcases mu_ex hf hb ha with (h2 | h2) | h2
    · subst h2; rw [(mu_0 hf ha).1.1.1, (mu_0 hf ha).1.1.2]
    · subst h2; rw [(mu_0 hf hb).1.1.1, (mu_0 hf hb).1.1.2]
    · rw [h, h2, Nat.add_comm]
theorem mu_nz {f a b : Nat} (hf : f < nF) (ha : a < qF f) (hb : b < qF f) (ha0 : a ≠ 0) (hb0 : b ≠ 0) : mu f a b ≠ 0 ∧ mu f a b = exF f ((lgF f a + lgF f b) % (qF f - 1)) ∧ lgF f (mu f a b) = (lgF f a + lgF f b) % (qF f - 1) := by
  obtain ⟨⟨hp, hp2, -, -, hq, hq2⟩, -⟩ := fF f hf
  rcases mu_ex hf ha hb with (h | h) | h
  · exact absurd h ha0
  · exact absurd h hb0
  · have hl : (lgF f a + lgF f b) % (qF f - 1) < qF f - 1 := Nat.mod_lt _ (by omega)
    rcases ex_lt hf (show (lgF f a + lgF f b) % (qF f - 1) < qF f by omega) with h3 | ⟨⟨h3, h4⟩, h5⟩
    · omega
    · exact ⟨by rw [h]; exact h4, h, by rw [h]; exact h5⟩
theorem mu_assoc {f a b c : Nat} (hf : f < nF) (ha : a < qF f) (hb : b < qF f) (hc : c < qF f) : mu f (mu f a b) c = mu f a (mu f b c) := by
  have z : ∀ x, x < qF f → mu f 0 x = 0 ∧ mu f x 0 = 0 := fun x hx => ⟨(mu_0 hf hx).1.1.2, (mu_0 hf hx).1.1.1⟩
  by_cases a0 : a = 0
  · subst a0; rw [(z b hb).1, (z c hc).1, (z _ (mu_lt hf hb hc)).1]
  by_cases b0 : b = 0
  · subst b0; rw [(z a ha).2, (z c hc).1, (z a ha).2]
  by_cases c0 : c = 0
  · subst c0; rw [(z _ (mu_lt hf ha hb)).2, (z b hb).2, (z a ha).2]
  obtain ⟨h1, h2, h3⟩ := mu_nz hf ha hb a0 b0
  obtain ⟨g1, g2, g3⟩ := mu_nz hf hb hc b0 c0
  rw [(mu_nz hf (mu_lt hf ha hb) hc h1 c0).2.1, (mu_nz hf ha (mu_lt hf hb hc) a0 g1).2.1, h3, g3, Nat.mod_add_mod, Nat.add_mod_mod, Nat.add_assoc]
theorem mu_ad {f a b c : Nat} (hf : f < nF) (ha : a < qF f) (hb : b < qF f) (hc : c < qF f) : mu f a (ad f b c) = ad f (mu f a b) (mu f a c) := by
  obtain ⟨⟨hp, hp2, -, -, hq, hq2⟩, -, -, h00, -⟩ := fF f hf
  have key : ∀ k, k < qF f - 1 → mu f (exF f k) (ad f b c) = ad f (mu f (exF f k) b) (mu f (exF f k) c) := by
    intro k
    induction k with
    | zero =>
      intro _
      rw [ex0 f hf, (mu_0 hf (ad_lt hf hb hc)).1.2, (mu_0 hf hb).1.2, (mu_0 hf hc).1.2]
    | succ k ih =>
      intro hk
      have e1 : 1 % (qF f - 1) = 1 := Nat.mod_eq_of_lt (by omega)
      rcases ex_lt hf (show k < qF f by omega) with h3 | ⟨⟨h3, h4⟩, h5⟩
      · omega
      rcases ex_lt hf (show 1 < qF f by omega) with g3 | ⟨⟨g3, g4⟩, g5⟩
      · omega
      have e2 : exF f (k + 1) = mu f (exF f 1) (exF f k) := by
        rw [(mu_nz hf g3 h3 g4 h4).2.1, g5, h5, Nat.mod_eq_of_lt (by omega), Nat.add_comm]
      rw [e2, mu_assoc hf g3 h3 (ad_lt hf hb hc), ih (by omega), mu_assoc hf g3 h3 hb, mu_assoc hf g3 h3 hc]
      have := mu_gen hf (mu_lt hf h3 hb) (mu_lt hf h3 hc)
      rw [e1] at this
      exact this
  rcases lg_lt hf ha with h | ⟨h1, h2⟩
  · subst h
    rw [(mu_0 hf (ad_lt hf hb hc)).1.1.2, (mu_0 hf hb).1.1.2, (mu_0 hf hc).1.1.2, h00]
  · have := key _ h1
    rw [h2] at this
    exact this
theorem ad_parts {f a b : Nat} (hf : f < nF) (ha : a < qF f) (hb : b < qF f) : ad f a b / pF f = ad f (a / pF f) (b / pF f) ∧ ad f a b % pF f = (a % pF f + b % pF f) % pF f := by
  obtain ⟨⟨hp, hp2, -, -, hq, hq2⟩, -⟩ := fF f hf
  have h := ad_rec hf ha hb
  have hm : (a % pF f + b % pF f) % pF f < pF f := Nat.mod_lt _ (by omega)
  rw [h]
  refine ⟨?_, ?_⟩
  · rw [Nat.mul_comm, Nat.mul_add_div (by omega), Nat.div_eq_of_lt hm, Nat.add_zero]
  · rw [Nat.mul_comm, Nat.mul_add_mod, Nat.mod_eq_of_lt hm]
theorem q_mas (x y z p : Nat) : ((x + y) % p + z) % p = (x + (y + z) % p) % p := by rw [Nat.mod_add_mod, Nat.add_mod_mod, Nat.add_assoc]
theorem ad_assoc {f : Nat} (hf : f < nF) : ∀ n a b c, a + b + c = n → a < qF f → b < qF f → c < qF f → ad f (ad f a b) c = ad f a (ad f b c) := by
  obtain ⟨⟨hp, hp2, -, -, hq, hq2⟩, -, -, h00, -⟩ := fF f hf
  intro n
  induction n using Nat.strongRecOn with
  | _ n ih =>
    intro a b c hn ha hb hc
    by_cases hz : n = 0
    · obtain ⟨rfl, rfl, rfl⟩ : a = 0 ∧ b = 0 ∧ c = 0 := by omega
      rw [h00]
    · obtain ⟨a1, a2⟩ := q_dm hp ha
      obtain ⟨b1, b2⟩ := q_dm hp hb
      obtain ⟨c1, c2⟩ := q_dm hp hc
      obtain ⟨p1, p2⟩ := ad_parts hf ha hb
      obtain ⟨p3, p4⟩ := ad_parts hf hb hc
      rw [ad_rec hf (ad_lt hf ha hb) hc, ad_rec hf ha (ad_lt hf hb hc), p1, p2, p3, p4, ih (a / pF f + b / pF f + c / pF f) (by omega) _ _ _ rfl a1 b1 c1, q_mas]
def pw (f a : Nat) : Nat → Nat
  | 0 => 1
  | n + 1 => mu f (pw f a n) a
def dk (f a x : Nat) : Nat → Nat
  | 0 => ad f 1 1
  | 1 => x
  | n + 2 => ad f (mu f x (dk f a x (n + 1))) (ng f (mu f a (dk f a x n)))
theorem q1 {f : Nat} (hf : f < nF) : 1 < qF f := (fF f hf).2.2.2.2.2.1
theorem pw_lt {f a : Nat} (hf : f < nF) (ha : a < qF f) : ∀ n, pw f a n < qF f
  | 0 => q1 hf
  | n + 1 => mu_lt hf (pw_lt hf ha n) ha
theorem dk_lt {f a x : Nat} (hf : f < nF) (ha : a < qF f) (hx : x < qF f) : ∀ n, dk f a x n < qF f
  | 0 => ad_lt hf (q1 hf) (q1 hf)
  | 1 => hx
  | n + 2 => ad_lt hf (mu_lt hf hx (dk_lt hf ha hx (n + 1))) (ng_lt hf (mu_lt hf ha (dk_lt hf ha hx n)))
theorem pw_add {f a : Nat} (hf : f < nF) (ha : a < qF f) (m : Nat) : ∀ n, pw f a (m + n) = mu f (pw f a m) (pw f a n)
  | 0 => ((mu_0 hf (pw_lt hf ha m)).2).symm
  | n + 1 => by
    show mu f (pw f a (m + n)) a = mu f (pw f a m) (mu f (pw f a n) a)
    rw [pw_add hf ha m n, mu_assoc hf (pw_lt hf ha m) (pw_lt hf ha n) ha]
def FQ (f : Nat) : Type := { n : Nat // n < qF f }
theorem FQ.ext {f : Nat} {a b : FQ f} (h : a.1 = b.1) : a = b := Subtype.ext h
def fqAdd {f : Nat} (hf : f < nF) (a b : FQ f) : FQ f := ⟨ad f a.1 b.1, ad_lt hf a.2 b.2⟩
def fqMul {f : Nat} (hf : f < nF) (a b : FQ f) : FQ f := ⟨mu f a.1 b.1, mu_lt hf a.2 b.2⟩
def fqNeg {f : Nat} (hf : f < nF) (a : FQ f) : FQ f := ⟨ng f a.1, ng_lt hf a.2⟩
def fqNat {f : Nat} (hf : f < nF) : Nat → FQ f
  | 0 => ⟨0, Nat.lt_trans (by decide) (q1 hf)⟩
  | 1 => ⟨1, q1 hf⟩
  | n + 2 => fqAdd hf (fqNat hf (n + 1)) ⟨1, q1 hf⟩
def fqPow {f : Nat} (hf : f < nF) (a : FQ f) : Nat → FQ f
  | 0 => ⟨1, q1 hf⟩
  | n + 1 => fqMul hf (fqPow hf a n) a
def fqInt {f : Nat} (hf : f < nF) : Int → FQ f
  | .ofNat n => fqNat hf n
  | .negSucc n => fqNeg hf (fqNat hf (n + 1))
theorem fq_nn {f : Nat} (hf : f < nF) (a : FQ f) : fqNeg hf (fqNeg hf a) = a := by
  refine FQ.ext ?_
  show ng f (ng f a.1) = a.1
  have h1 := ng_lt hf a.2
  have h2 := (ad_0 hf a.2).2
  rw [ad_comm hf a.2 h1] at h2
  rcases ad_ng hf h1 a.2 with h | h
  · exact absurd h2 h
  · exact h.symm
theorem fq_n0 {f : Nat} (hf : f < nF) : fqNeg hf (fqNat hf 0) = fqNat hf 0 := FQ.ext (fF f hf).2.2.2.2.1
theorem fq_ineg {f : Nat} (hf : f < nF) : ∀ i : Int, fqInt hf (-i) = fqNeg hf (fqInt hf i)
  | .ofNat 0 => (fq_n0 hf).symm
  | .ofNat (n + 1) => rfl
  | .negSucc n => (fq_nn hf (fqNat hf (n + 1))).symm
theorem fq_mn {f : Nat} (hf : f < nF) (a b : FQ f) : fqMul hf (fqNeg hf a) b = fqNeg hf (fqMul hf a b) := by
  refine FQ.ext ?_
  show mu f (ng f a.1) b.1 = ng f (mu f a.1 b.1)
  have h1 := ng_lt hf a.2
  have h2 : ad f (mu f a.1 b.1) (mu f (ng f a.1) b.1) = 0 := by
    rw [mu_comm hf a.2 b.2, mu_comm hf h1 b.2, ← mu_ad hf b.2 a.2 h1, (ad_0 hf a.2).2, (mu_0 hf b.2).1.1.1]
  rcases ad_ng hf (mu_lt hf a.2 b.2) (mu_lt hf h1 b.2) with h | h
  · exact absurd h2 h
  · exact h
def fqR {f : Nat} (hf : f < nF) : Lean.Grind.CommRing (FQ f) where
  add := fqAdd hf
  mul := fqMul hf
  natCast := ⟨fqNat hf⟩
  ofNat := fun n => ⟨fqNat hf n⟩
  nsmul := ⟨fun n a => fqMul hf (fqNat hf n) a⟩
  npow := ⟨fun a n => fqPow hf a n⟩
  neg := fqNeg hf
  sub := fun a b => fqAdd hf a (fqNeg hf b)
  intCast := ⟨fqInt hf⟩
  zsmul := ⟨fun i a => fqMul hf (fqInt hf i) a⟩
  add_zero := fun a => FQ.ext (ad_0 hf a.2).1.2
  add_comm := fun a b => FQ.ext (ad_comm hf a.2 b.2)
  add_assoc := fun a b c => FQ.ext (ad_assoc hf _ a.1 b.1 c.1 rfl a.2 b.2 c.2)
  mul_assoc := fun a b c => FQ.ext (mu_assoc hf a.2 b.2 c.2)
  mul_one := fun a => FQ.ext (mu_0 hf a.2).2
  one_mul := fun a => FQ.ext (mu_0 hf a.2).1.2
  left_distrib := fun a b c => FQ.ext (mu_ad hf a.2 b.2 c.2)
  right_distrib := fun a b c => FQ.ext (by
    show mu f (ad f a.1 b.1) c.1 = ad f (mu f a.1 c.1) (mu f b.1 c.1)
    rw [mu_comm hf (ad_lt hf a.2 b.2) c.2, mu_ad hf c.2 a.2 b.2, mu_comm hf c.2 a.2, mu_comm hf c.2 b.2])
  zero_mul := fun a => FQ.ext (mu_0 hf a.2).1.1.2
  mul_zero := fun a => FQ.ext (mu_0 hf a.2).1.1.1
  pow_zero := fun a => rfl
  pow_succ := fun a n => rfl
  ofNat_succ := fun n => by
    match n with
    | 0 => exact FQ.ext ((ad_0 hf (q1 hf)).1.1).symm
    | n + 1 => rfl
  ofNat_eq_natCast := fun n => rfl
  nsmul_eq_natCast_mul := fun n a => rfl
  neg_add_cancel := fun a => FQ.ext (by
    show ad f (ng f a.1) a.1 = 0
    rw [ad_comm hf (ng_lt hf a.2) a.2]; exact (ad_0 hf a.2).2)
  sub_eq_add_neg := fun a b => rfl
  neg_zsmul := fun i a => by
    show fqMul hf (fqInt hf (-i)) a = fqNeg hf (fqMul hf (fqInt hf i) a)
    rw [fq_ineg, fq_mn]
  zsmul_natCast_eq_nsmul := fun n a => rfl
  intCast_ofNat := fun n => rfl
  intCast_neg := fun i => fq_ineg hf i
  mul_comm := fun a b => FQ.ext (mu_comm hf a.2 b.2)
theorem dk_c {α : Type} [Lean.Grind.CommRing α] (x a : α) (D P : Nat → α) (h0 : D 0 = 1 + 1) (h1 : D 1 = x) (hD : ∀ n, D (n + 2) = x * D (n + 1) - a * D n) (p0 : P 0 = 1) (hP : ∀ n, P (n + 1) = P n * a) :
    ∀ k, D (k + 1) * D (k + 1) - x * D (k + 1) * D k + a * D k * D k = P k * (a + a + a + a - x * x) := by
  intro k
  induction k with
  | zero => rw [p0, Nat.zero_add, h0, h1]; grind
  | succ k ih => rw [hD k, hP k]; grind
theorem dk_2 {α : Type} [Lean.Grind.CommRing α] (x a : α) (D P : Nat → α) (h0 : D 0 = 1 + 1) (h1 : D 1 = x) (hD : ∀ n, D (n + 2) = x * D (n + 1) - a * D n) (p0 : P 0 = 1) (hP : ∀ n, P (n + 1) = P n * a) :
    ∀ k, D (2 * k) = D k * D k - (P k + P k) ∧ D (2 * k + 1) = D k * D (k + 1) - P k * x := by
  intro k
  induction k with
  | zero => rw [p0, Nat.mul_zero, Nat.zero_add, h0, h1]; exact ⟨by grind, by grind⟩
  | succ k ih =>
    have hc := dk_c x a D P h0 h1 hD p0 hP k
    obtain ⟨i1, i2⟩ := ih
    have e1 : D (2 * (k + 1)) = x * D (2 * k + 1) - a * D (2 * k) := hD (2 * k)
    have e2 : D (2 * (k + 1) + 1) = x * D (2 * (k + 1)) - a * D (2 * k + 1) := hD (2 * k + 1)
    have e3 := hD k
    have e4 := hP k
    refine ⟨?_, ?_⟩
    · rw [e1, i1, i2, e4]; grind
    · rw [e2, e1, i1, i2, e4, e3]; grind
theorem dk_dbl {f a x : Nat} (hf : f < nF) (ha : a < qF f) (hx : x < qF f) (k : Nat) : dk f a x (2 * k) = ad f (mu f (dk f a x k) (dk f a x k)) (ng f (ad f (pw f a k) (pw f a k))) ∧ dk f a x (2 * k + 1) = ad f (mu f (dk f a x k) (dk f a x (k + 1))) (ng f (mu f (pw f a k) x)) := by
  have h := @dk_2 (FQ f) (fqR hf) ⟨x, hx⟩ ⟨a, ha⟩ (fun n => ⟨dk f a x n, dk_lt hf ha hx n⟩) (fun n => ⟨pw f a n, pw_lt hf ha n⟩) rfl rfl (fun n => rfl) rfl (fun n => rfl) k
  exact ⟨congrArg Subtype.val h.1, congrArg Subtype.val h.2⟩
