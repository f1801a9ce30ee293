/-! the heap as the constructors leave it: the field -/
def hF0 : AH := znew (0, 0, fun _ => none) 9 (z_o 6 (zdf 6))
def hF1 : AH := znew hF0 9 (z_o 0 (zdf 0))
def ckI (n : Nat) (e : Option aE) : Bool := match e with
  | some (.inl (m, _)) => m == n
  | _ => false
def ckAt (e : Option aE) (i : Nat) (v : Int32) : Bool := match e with
  | some (.inl (_, f)) => f i == v
  | _ => false
def ckO (c : Nat) (vs : List Value) (e : Option aE) : Bool := match e with
  | some (.inr (.inr (.inr (d, ws)))) => d == c && decide (ws = vs)
  | _ => false
def ckF (o : RR) : Bool := match o with
  | some (.inl none, h) => h.1 == 7 && h.2.1 == 8402 && ckO 6 (zdf 6) (h.2.2 0) && ckO 0 [.int 2, .int 1, .int 2, .int 0, .ref 2, .ref 3, .ref 4, .ref 5, .ref 6] (h.2.2 1) && ckI 4096 (h.2.2 2) && ckI 4096 (h.2.2 3) && ckI 64 (h.2.2 4) && ckI 64 (h.2.2 5) && ckI 64 (h.2.2 6) && (List.range 2).all (fun a => (List.range 2).all (fun b => ckAt (h.2.2 2) (a * 64 + b) (nI (ad 0 a b)) && ckAt (h.2.2 3) (a * 64 + b) (nI (mu 0 a b)))) && (List.range 2).all (fun a => ckAt (h.2.2 4) a (nI (ng 0 a)) && (a == 0 || ckAt (h.2.2 5) a (nI (iv 0 a))))
  | _ => false
theorem ck_run : ckF (fX0_init 1 hF1) = true := by decide +kernel
theorem ckI_of {n : Nat} {e : Option aE} (h : ckI n e = true) : ∃ f, e = some (z_i n f) := by
  unfold ckI at h
  split at h
  · rename_i m f
    have : m = n := by simpa using h
    subst this
    exact ⟨f, rfl⟩
  · cases h
theorem ckO_of {c : Nat} {vs : List Value} {e : Option aE} (h : ckO c vs e = true) : e = some (z_o c vs) := by
  unfold ckO at h
  split at h
  · rename_i d ws
    rw [Bool.and_eq_true] at h
    have h1 : d = c := by simpa using h.1
    have h2 : ws = vs := of_decide_eq_true h.2
    rw [h1, h2]
  · cases h
theorem ckAt_of {e : Option aE} {n i : Nat} {f : Nat → Int32} {v : Int32} (he : e = some (z_i n f)) (h : ckAt e i v = true) : f i = v := by
  subst he
  have : (f i == v) = true := h
  simpa using this
theorem f_init : ∃ (F : Nat → Option aE) (f2 f3 f4 f5 f6 : Nat → Int32), fX0_init 1 hF1 = some (.inl none, (7, 8402, F)) ∧ F 0 = some (z_o 6 (zdf 6)) ∧ F 1 = some (z_o 0 [.int 2, .int 1, .int 2, .int 0, .ref 2, .ref 3, .ref 4, .ref 5, .ref 6]) ∧ F 2 = some (z_i 4096 f2) ∧ F 3 = some (z_i 4096 f3) ∧ F 4 = some (z_i 64 f4) ∧ F 5 = some (z_i 64 f5) ∧ F 6 = some (z_i 64 f6) ∧ (∀ a b, a < 2 → b < 2 → f2 (a * 64 + b) = nI (ad 0 a b) ∧ f3 (a * 64 + b) = nI (mu 0 a b)) ∧ (∀ a, a < 2 → f4 a = nI (ng 0 a) ∧ (a ≠ 0 → f5 a = nI (iv 0 a))) := by
  have hc := ck_run
  generalize fX0_init 1 hF1 = o at hc
  rcases o with _ | ⟨(_ | _) | _, n, k, F⟩
  · cases hc
  · unfold ckF at hc
    simp only [Bool.and_eq_true] at hc
    obtain ⟨⟨⟨⟨⟨⟨⟨⟨⟨⟨h1, h2⟩, h3⟩, h4⟩, h5⟩, h6⟩, h7⟩, h8⟩, h9⟩, h10⟩, h11⟩ := hc
    have e1 : n = 7 := by simpa using h1
    have e2 : k = 8402 := by simpa using h2
    subst e1; subst e2
    obtain ⟨f2, g2⟩ := ckI_of h5
    obtain ⟨f3, g3⟩ := ckI_of h6
    obtain ⟨f4, g4⟩ := ckI_of h7
    obtain ⟨f5, g5⟩ := ckI_of h8
    obtain ⟨f6, g6⟩ := ckI_of h9
    refine ⟨F, f2, f3, f4, f5, f6, rfl, ckO_of h3, ckO_of h4, g2, g3, g4, g5, g6, fun a b ha hb => ?_, fun a ha => ?_⟩
    · rw [List.all_eq_true] at h10
      have h12 := h10 a (List.mem_range.mpr ha)
      rw [List.all_eq_true] at h12
      have h13 := h12 b (List.mem_range.mpr hb)
      rw [Bool.and_eq_true] at h13
      exact ⟨ckAt_of g2 h13.1, ckAt_of g3 h13.2⟩
    · rw [List.all_eq_true] at h11
      have h12 := h11 a (List.mem_range.mpr ha)
      rw [Bool.and_eq_true, Bool.or_eq_true] at h12
      refine ⟨ckAt_of g4 h12.1, fun h0 => ?_⟩
      rcases h12.2 with h13 | h13
      · exact absurd (by simpa using h13) h0
      · exact ckAt_of g5 h13
  · cases hc
  · cases hc
