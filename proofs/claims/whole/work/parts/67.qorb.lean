/-! reach, as ways -/
def goL (W : Nat → Nat → Nat) : List Nat → Nat → Nat
  | [], x => x
  | i :: l, x => goL W l (W i x)
def wayO (q c : Nat) (W : Nat → Nat → Nat) (l : List Nat) : Prop := ∀ i, i ∈ l → i < c ∧ pmB q (W i) = true
def Rch (q c : Nat) (W : Nat → Nat → Nat) (x y : Nat) : Prop := ∃ l, wayO q c W l ∧ goL W l x = y
theorem go_app (W : Nat → Nat → Nat) : ∀ l m x, goL W (l ++ m) x = goL W m (goL W l x)
  | [], _, _ => rfl
  | i :: l, m, x => go_app W l m (W i x)
section QW
variable {q c : Nat} {W : Nat → Nat → Nat}
theorem Rch.rf {x : Nat} : Rch q c W x x := ⟨[], fun _ h => (by cases h), rfl⟩
theorem Rch.tr {x y z : Nat} (h : Rch q c W x y) (h' : Rch q c W y z) : Rch q c W x z := by
  obtain ⟨l, l1, l2⟩ := h
  obtain ⟨m, m1, m2⟩ := h'
  refine ⟨l ++ m, fun i hi => ?_, by rw [go_app, l2, m2]⟩
  rcases List.mem_append.mp hi with h | h
  · exact l1 i h
  · exact m1 i h
theorem Rch.one {x i : Nat} (hi : i < c) (hp : pmB q (W i) = true) : Rch q c W x (W i x) := ⟨[i], fun j hj => by rw [List.mem_singleton] at hj; subst hj; exact ⟨hi, hp⟩, rfl⟩
theorem Rch.lt (hW : ∀ i, i < c → ∀ x, x < q → W i x < q) {y : Nat} : ∀ {x : Nat}, x < q → Rch q c W x y → y < q := by
  rintro x hx ⟨l, l1, l2⟩
  induction l generalizing x with
  | nil => have : x = y := l2; omega
  | cons i l ih => exact ih (hW i (l1 i List.mem_cons_self).1 x hx) (fun j hj => l1 j (List.mem_cons_of_mem _ hj)) l2
theorem Rch.it {i : Nat} (hi : i < c) (hp : pmB q (W i) = true) : ∀ n x, Rch q c W x (itf (W i) n x)
  | 0, _ => Rch.rf
  | n + 1, x => (Rch.one hi hp).tr (Rch.it hi hp n (W i x))
theorem Rch.sy (hW : ∀ i, i < c → ∀ x, x < q → W i x < q) {y : Nat} : ∀ {x : Nat}, x < q → Rch q c W x y → Rch q c W y x := by
  rintro x hx ⟨l, l1, l2⟩
  induction l generalizing x with
  | nil => have : x = y := l2; subst this; exact Rch.rf
  | cons i l ih =>
    obtain ⟨hi, hp⟩ := l1 i List.mem_cons_self
    have hb := ih (hW i hi x hx) (fun j hj => l1 j (List.mem_cons_of_mem _ hj)) l2
    refine hb.tr ?_
    obtain ⟨L, k1, k2, k3, -⟩ := cy_len hp (hW i hi) hx
    have e : itf (W i) (L - 1) (W i x) = x := by
      have : itf (W i) ((L - 1) + 1) x = x := by rw [show L - 1 + 1 = L by omega]; exact k3
      exact this
    have := Rch.it (W := W) hi hp (L - 1) (W i x)
    rw [e] at this
    exact this
theorem rd_sub (M : Nat) : ∀ n y, M.testBit y = true → (rdF q W M n).testBit y = true
  | 0, _, h => h
  | n + 1, y, h => by
    have ih := rd_sub M n y h
    unfold rdF
    split
    · rw [Nat.testBit_or, ih]; rfl
    · exact ih
theorem rd_sound {x : Nat} {M : Nat} (hM : ∀ y, M.testBit y = true → Rch q c W x y) : ∀ n, n ≤ c → ∀ y, (rdF q W M n).testBit y = true → Rch q c W x y
  | 0, _, y, h => hM y h
  | n + 1, hn, y, h => by
    have ih := rd_sound hM n (by omega)
    unfold rdF at h
    split at h
    · next hp =>
      rw [Nat.testBit_or, Bool.or_eq_true] at h
      rcases h with h | h
      · exact ih y h
      · obtain ⟨s, s1, s2, s3⟩ := (is_bit y q).mp h
        subst s3
        exact (ih s s2).tr (Rch.one (by omega) hp)
    · exact ih y h
theorem rd_closed {M : Nat} (h : rdF q W M c = M) : ∀ i, i < c → pmB q (W i) = true → ∀ y, y < q → M.testBit y = true → M.testBit (W i y) = true := by
  have mono : ∀ n d y, (rdF q W M n).testBit y = true → (rdF q W M (n + d)).testBit y = true := by
    intro n d
    induction d with
    | zero => intro y h; exact h
    | succ d ih =>
      intro y h
      have := ih y h
      show (rdF q W M (n + d + 1)).testBit y = true
      rw [rdF.eq_2]
      split
      · rw [Nat.testBit_or, this]; rfl
      · exact this
  intro i hi hp y hy hb
  have h1 : (rdF q W M (i + 1)).testBit (W i y) = true := by
    rw [rdF.eq_2, if_pos hp, Nat.testBit_or, Bool.or_eq_true]
    exact Or.inr ((is_bit _ q).mpr ⟨y, hy, rd_sub M i y hb, rfl⟩)
  have := mono (i + 1) (c - (i + 1)) _ h1
  rw [show i + 1 + (c - (i + 1)) = c by omega, h] at this
  exact this
theorem rd_big (hW : ∀ i, i < c → ∀ x, x < q → W i x < q) {M : Nat} (hM : ∀ y, M.testBit y = true → y < q) : ∀ n, n ≤ c → ∀ y, (rdF q W M n).testBit y = true → y < q
  | 0, _, y, h => hM y h
  | n + 1, hn, y, h => by
    have ih := rd_big hW hM n (by omega)
    unfold rdF at h
    split at h
    · rw [Nat.testBit_or, Bool.or_eq_true] at h
      rcases h with h | h
      · exact ih y h
      · obtain ⟨s, s1, s2, s3⟩ := (is_bit y q).mp h
        subst s3
        exact hW n (by omega) s s1
    · exact ih y h
theorem rc_fix (hW : ∀ i, i < c → ∀ x, x < q → W i x < q) : ∀ d M, (∀ y, M.testBit y = true → y < q) → q ≤ fb_ct (fun y => M.testBit y) q + d → rdF q W (rcF q c W d M) c = rcF q c W d M ∧ (∀ y, M.testBit y = true → (rcF q c W d M).testBit y = true) ∧ (∀ y, (rcF q c W d M).testBit y = true → y < q) := by
  intro d
  induction d with
  | zero =>
    intro M hM hc
    refine ⟨?_, fun y h => h, hM⟩
    show rdF q W M c = M
    have hall := fb_ct_all.mp (Nat.le_antisymm (fb_ct_le (fun y => M.testBit y) q) (by omega))
    apply Nat.eq_of_testBit_eq
    intro y
    cases hb : M.testBit y with
    | true => exact rd_sub M c y hb
    | false =>
      cases hr : (rdF q W M c).testBit y with
      | false => rfl
      | true =>
        have := hall y (rd_big hW hM c (Nat.le_refl _) y hr)
        rw [hb] at this
        cases this
  | succ d ih =>
    intro M hM hc
    unfold rcF
    by_cases e : rdF q W M c = M
    · rw [if_pos e]
      exact ⟨e, fun y h => h, hM⟩
    · rw [if_neg e]
      have hM' := rd_big hW hM c (Nat.le_refl _)
      have grow : fb_ct (fun y => M.testBit y) q + 1 ≤ fb_ct (fun y => (rdF q W M c).testBit y) q := by
        have hx : ∃ y, (rdF q W M c).testBit y = true ∧ M.testBit y = false := by
          apply Classical.byContradiction
          intro hno
          apply e
          apply Nat.eq_of_testBit_eq
          intro y
          cases hb : M.testBit y with
          | true => exact rd_sub M c y hb
          | false =>
            cases hr : (rdF q W M c).testBit y with
            | false => rfl
            | true => exact absurd ⟨y, hr, hb⟩ hno
        obtain ⟨y, y1, y2⟩ := hx
        have hy := hM' y y1
        have h1 := fb_ct_upd (fun z => M.testBit z) true (i := y) (n := q) hy
        have h2 : fb_ct (fun k => if k = y then true else M.testBit k) q ≤ fb_ct (fun y => (rdF q W M c).testBit y) q := by
          refine fb_ct_sub (fun k _ hk => ?_)
          by_cases ek : k = y
          · rw [ek]; exact y1
          · rw [if_neg ek] at hk; exact rd_sub M c k hk
        have h3 : fb_ct (fun k => if k = y then true else M.testBit k) q + (if M.testBit y = true then 1 else 0) = fb_ct (fun z => M.testBit z) q + (if true = true then 1 else 0) := h1
        rw [y2, if_neg (by decide), if_pos rfl] at h3
        omega
      obtain ⟨i1, i2, i3⟩ := ih (rdF q W M c) hM' (by omega)
      exact ⟨i1, fun y h => i2 y (rd_sub M c y h), i3⟩
theorem rc_sound {x : Nat} : ∀ d M, (∀ y, M.testBit y = true → Rch q c W x y) → ∀ y, (rcF q c W d M).testBit y = true → Rch q c W x y := by
  intro d
  induction d with
  | zero => intro M hM y h; exact hM y h
  | succ d ih =>
    intro M hM y h
    unfold rcF at h
    split at h
    · exact hM y h
    · exact ih _ (fun z hz => rd_sound hM c (Nat.le_refl _) z hz) y h
theorem rc_bit (hW : ∀ i, i < c → ∀ x, x < q → W i x < q) {x : Nat} (hx : x < q) (y : Nat) : (rcF q c W q (2 ^ x)).testBit y = true ↔ Rch q c W x y := by
  have b0 : ∀ z, (2 ^ x).testBit z = true → z = x := fun z hz => by
    rw [Nat.testBit_two_pow] at hz
    simpa using (of_decide_eq_true hz).symm
  obtain ⟨f1, f2, f3⟩ := rc_fix hW q (2 ^ x) (fun z hz => by rw [b0 z hz]; exact hx) (by omega)
  constructor
  · exact rc_sound q (2 ^ x) (fun z hz => by rw [b0 z hz]; exact Rch.rf) y
  · have cl := rd_closed f1
    have start : (rcF q c W q (2 ^ x)).testBit x = true := f2 x (by rw [Nat.testBit_two_pow]; simp)
    rintro ⟨l, l1, l2⟩
    have : ∀ l z, z < q → (rcF q c W q (2 ^ x)).testBit z = true → wayO q c W l → (rcF q c W q (2 ^ x)).testBit (goL W l z) = true := by
      intro l
      induction l with
      | nil => intro z _ hb _; exact hb
      | cons i l ih =>
        intro z hz hb hl
        obtain ⟨hi, hp⟩ := hl i List.mem_cons_self
        exact ih (W i z) (hW i hi z hz) (cl i hi hp z hz hb) (fun j hj => hl j (List.mem_cons_of_mem _ hj))
    rw [← l2]
    exact this l x hx start l1
end QW
