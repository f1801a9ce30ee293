/-! texts: how they are cut -/
def reF (Q : Nat → Bool) (b : Nat → Nat) : Nat → Nat → Nat
  | 0, p => p
  | k + 1, p => if Q (b p) = true then reF Q b k (p + 1) else p
/-- the end of a run -/
def re (Q : Nat → Bool) (b : Nat → Nat) (n p : Nat) : Nat := reF Q b (n - p) p
def isS (c : Nat) : Bool := c == 32
def isD (c : Nat) : Bool := decide (48 ≤ c) && decide (c ≤ 57)
def isL (c : Nat) : Bool := decide (97 ≤ c) && decide (c ≤ 122)
def isG (c : Nat) : Bool := (decide (40 ≤ c) && decide (c ≤ 43)) || c == 45 || c == 59 || c == 94
section QTA
variable {Q : Nat → Bool} {b : Nat → Nat} {n p : Nat}
theorem re_n (h : n ≤ p) : re Q b n p = p := by
  unfold re
  rw [Nat.sub_eq_zero_of_le h]
  rfl
theorem re_y (h : p < n) (hq : Q (b p) = true) : re Q b n p = re Q b n (p + 1) := by
  unfold re
  rw [show n - p = (n - (p + 1)) + 1 by omega, reF, if_pos hq]
theorem re_no (h : p < n) (hq : ¬ Q (b p) = true) : re Q b n p = p := by
  unfold re
  rw [show n - p = (n - (p + 1)) + 1 by omega, reF, if_neg hq]
theorem re_all : ∀ d p, p + d = n → p ≤ re Q b n p ∧ re Q b n p ≤ n ∧ (re Q b n p < n → ¬ Q (b (re Q b n p)) = true) ∧ ∀ i, p ≤ i → i < re Q b n p → Q (b i) = true := by
  intro d
  induction d with
  | zero =>
    intro p h
    rw [re_n (by omega)]
    exact ⟨Nat.le_refl _, by omega, fun h => by omega, fun i h1 h2 => by omega⟩
  | succ d ih =>
    intro p h
    by_cases hq : Q (b p) = true
    · rw [re_y (by omega) hq]
      obtain ⟨a1, a2, a3, a4⟩ := ih (p + 1) (by omega)
      refine ⟨by omega, a2, a3, fun i h1 h2 => ?_⟩
      by_cases e : i = p
      · rw [e]; exact hq
      · exact a4 i (by omega) h2
    · rw [re_no (by omega) hq]
      exact ⟨Nat.le_refl _, by omega, fun _ => hq, fun i h1 h2 => by omega⟩
theorem re_ge : p ≤ re Q b n p := by
  by_cases h : p ≤ n
  · exact (re_all (n - p) p (by omega)).1
  · rw [re_n (by omega)]; exact Nat.le_refl _
theorem re_le (h : p ≤ n) : re Q b n p ≤ n := (re_all (n - p) p (by omega)).2.1
theorem re_not (h : re Q b n p < n) : ¬ Q (b (re Q b n p)) = true := by
  have hg : p ≤ re Q b n p := re_ge
  exact (re_all (n - p) p (by omega)).2.2.1 h
theorem re_in (h : p ≤ n) {i : Nat} (h1 : p ≤ i) (h2 : i < re Q b n p) : Q (b i) = true := (re_all (n - p) p (by omega)).2.2.2 i h1 h2
end QTA
def sk (b : Nat → Nat) (n p : Nat) : Nat := re isS b n p
def en (b : Nat → Nat) (n p : Nat) : Nat := if isD (b p) = true then re isD b n (p + 1) else if isL (b p) = true then re isL b n (p + 1) else p + 1
def nx (b : Nat → Nat) (n p : Nat) : Nat := sk b n (en b n p)
def dv (b : Nat → Nat) (p : Nat) : Nat → Nat
  | 0 => 0
  | k + 1 => 10 * dv b p k + (b (p + k) - 48)
/-- the number that begins here -/
def nv (b : Nat → Nat) (n p : Nat) : Nat := dv b p (en b n p - p)
def wl : List (List Nat) := [[120], [102], [112, 111, 108, 121], [102, 105, 101, 108, 100], [100, 105, 99, 107, 115, 111, 110]]
def wlen (j : Nat) : Nat := (wl.getD j []).length
def wch (j i : Nat) : Nat := (wl.getD j []).getD i 0
def wd (b : Nat → Nat) (j p e : Nat) : Prop := wlen j = e - p ∧ ∀ i, i < wlen j → b (p + i) = wch j i
theorem wl_ok : ∀ j, j < 5 → (wlen j < 8 ∧ 0 < wlen j) ∧ nI (zbyt.getD j []).length = nI (wlen j) ∧ (zbyt.getD j []).length = wlen j ∧ (UInt32.ofNat j).toNat = j ∧ ∀ i, i < wlen j → ((zbyt.getD j []).getD i 0 = nI (wch j i) ∧ isL (wch j i) = true) := by decide +kernel
noncomputable def wk (b : Nat → Nat) (p e : Nat) : Nat := by
  classical
  exact if wd b 0 p e then 4 else if wd b 1 p e then 5 else if wd b 2 p e then 3 else if wd b 3 p e then 2 else if wd b 4 p e then 6 else 7
/-- what begins here -/
noncomputable def kd (b : Nat → Nat) (n p : Nat) : Nat := if n ≤ p then 0 else if isD (b p) = true then 1 else if isL (b p) = true then wk b p (en b n p) else if isG (b p) = true then b p else 7
section QTB
variable {b : Nat → Nat} {n p : Nat}
theorem sk_ge : p ≤ sk b n p := re_ge
theorem sk_le (h : p ≤ n) : sk b n p ≤ n := re_le h
theorem sk_n (h : n ≤ p) : sk b n p = p := re_n h
theorem sk_sp (h : p < n) (e : b p = 32) : sk b n p = sk b n (p + 1) := re_y h (by rw [e]; rfl)
theorem sk_ns (h : p < n) (e : b p ≠ 32) : sk b n p = p := re_no h (by unfold isS; simpa using e)
theorem sk_not (h : sk b n p < n) : b (sk b n p) ≠ 32 := fun e => re_not (Q := isS) (b := b) h (by
  show isS (b (sk b n p)) = true
  rw [e]
  rfl)
theorem sk_id : sk b n (sk b n p) = sk b n p := by
  by_cases h : sk b n p < n
  · exact sk_ns h (sk_not h)
  · exact sk_n (by omega)
theorem en_gt : p < en b n p := by
  unfold en
  split
  · exact re_ge
  · split
    · exact re_ge
    · exact Nat.lt_succ_self p
theorem en_le (h : p < n) : en b n p ≤ n := by
  unfold en
  split
  · exact re_le h
  · split
    · exact re_le h
    · exact h
theorem nx_gt : p < nx b n p := Nat.lt_of_lt_of_le en_gt sk_ge
theorem nx_le (h : p < n) : nx b n p ≤ n := sk_le (en_le h)
theorem nx_id : sk b n (nx b n p) = nx b n p := sk_id
theorem kd_0 : kd b n p = 0 ↔ n ≤ p := by
  unfold kd
  by_cases h : n ≤ p
  · rw [if_pos h]; exact ⟨fun _ => h, fun _ => rfl⟩
  · rw [if_neg h]
    refine ⟨fun e => ?_, fun h' => absurd h' h⟩
    exfalso
    revert e
    split
    · decide
    · split
      · unfold wk
        split
        · decide
        · split
          · decide
          · split
            · decide
            · split
              · decide
              · split <;> decide
      · split
        · rename_i h9
          intro e
          rw [e] at h9
          exact absurd h9 (by decide)
        · decide
theorem kd_lt (h : kd b n p ≠ 0) : p < n := by
  by_cases h' : n ≤ p
  · exact absurd (kd_0.mpr h') h
  · omega
theorem dis (c : Nat) : (isD c = true → isL c = false ∧ isG c = false) ∧ (isL c = true → isD c = false) := by
  unfold isD isL isG
  simp
  omega
theorem kd_1 : kd b n p = 1 ↔ (p < n ∧ isD (b p) = true) := by
  unfold kd
  by_cases h : n ≤ p
  · rw [if_pos h]; exact ⟨fun e => absurd e (by decide), fun h' => by omega⟩
  · rw [if_neg h]
    by_cases hd : isD (b p) = true
    · rw [if_pos hd]; exact ⟨fun _ => ⟨by omega, hd⟩, fun _ => rfl⟩
    · rw [if_neg hd]
      refine ⟨fun e => ?_, fun h' => absurd h'.2 hd⟩
      exfalso
      revert e
      split
      · unfold wk
        split
        · decide
        · split
          · decide
          · split
            · decide
            · split
              · decide
              · split <;> decide
      · split
        · rename_i h9
          intro e
          rw [e] at h9
          exact absurd h9 (by decide)
        · decide
/-- a sign -/
theorem kd_g {c : Nat} (hc : isG c = true) : kd b n p = c ↔ (p < n ∧ b p = c) := by
  have c7 : 8 ≤ c := by unfold isG at hc; simp at hc; omega
  have cl : isL c = false ∧ isD c = false := by unfold isG at hc; unfold isL isD; simp at hc ⊢; omega
  unfold kd
  by_cases h : n ≤ p
  · rw [if_pos h]; exact ⟨fun e => by omega, fun h' => by omega⟩
  · rw [if_neg h]
    by_cases e : b p = c
    · rw [e, if_neg (by rw [cl.2]; decide), if_neg (by rw [cl.1]; decide), if_pos hc]
      exact ⟨fun _ => ⟨by omega, rfl⟩, fun _ => rfl⟩
    · refine ⟨fun e9 => ?_, fun h' => absurd h'.2 e⟩
      exfalso
      revert e9
      split
      · omega
      · split
        · unfold wk
          split
          · omega
          · split
            · omega
            · split
              · omega
              · split
                · omega
                · split <;> omega
        · split
          · exact e
          · omega
def wcode (j : Nat) : Nat := [4, 5, 3, 2, 6].getD j 0
theorem wd_ne {i j e : Nat} (hi : i < 5) (hj : j < 5) (h : wd b i p e) (h' : wd b j p e) : i = j := by
  obtain ⟨a1, a2⟩ := h
  obtain ⟨b1, b2⟩ := h'
  have hl : wlen i = wlen j := by rw [a1, b1]
  have hc : wch i 0 = wch j 0 := by rw [← a2 0 (wl_ok i hi).1.2, ← b2 0 (wl_ok j hj).1.2]
  have : ∀ i, i < 5 → ∀ j, j < 5 → wlen i = wlen j → wch i 0 = wch j 0 → i = j := by decide
  exact this i hi j hj hl hc
theorem wk_j {j e : Nat} (hj : j < 5) : wk b p e = wcode j ↔ wd b j p e := by
  classical
  have ne : ∀ {i : Nat}, i < 5 → i ≠ j → wd b j p e → ¬ wd b i p e := fun hi hn h h' => hn (wd_ne hi hj h' h)
  constructor
  · intro h
    unfold wk at h
    match j, hj with
    | 0, _ => revert h; repeat (first | (split; first | (intro; assumption) | (intro h; exact absurd h (by decide))) | (intro h; exact absurd h (by decide)))
    | 1, _ => revert h; repeat (first | (split; first | (intro; assumption) | (intro h; exact absurd h (by decide))) | (intro h; exact absurd h (by decide)))
    | 2, _ => revert h; repeat (first | (split; first | (intro; assumption) | (intro h; exact absurd h (by decide))) | (intro h; exact absurd h (by decide)))
    | 3, _ => revert h; repeat (first | (split; first | (intro; assumption) | (intro h; exact absurd h (by decide))) | (intro h; exact absurd h (by decide)))
    | 4, _ => revert h; repeat (first | (split; first | (intro; assumption) | (intro h; exact absurd h (by decide))) | (intro h; exact absurd h (by decide)))
  · intro h
    unfold wk
    match j, hj with
    | 0, _ => rw [if_pos h]; rfl
    | 1, _ => rw [if_neg (ne (by decide) (by decide) h), if_pos h]; rfl
    | 2, _ => rw [if_neg (ne (by decide) (by decide) h), if_neg (ne (by decide) (by decide) h), if_pos h]; rfl
    | 3, _ => rw [if_neg (ne (by decide) (by decide) h), if_neg (ne (by decide) (by decide) h), if_neg (ne (by decide) (by decide) h), if_pos h]; rfl
    | 4, _ => rw [if_neg (ne (by decide) (by decide) h), if_neg (ne (by decide) (by decide) h), if_neg (ne (by decide) (by decide) h), if_neg (ne (by decide) (by decide) h), if_pos h]; rfl
theorem wc_ok : ∀ j, j < 5 → wcode j ≠ 0 ∧ wcode j ≠ 1 ∧ wcode j ≠ 7 ∧ isG (wcode j) = false := by decide
/-- a word -/
theorem kd_w {j : Nat} (hj : j < 5) : kd b n p = wcode j ↔ (p < n ∧ isL (b p) = true ∧ wd b j p (en b n p)) := by
  obtain ⟨w0, w1, w7, wg⟩ := wc_ok j hj
  unfold kd
  by_cases h : n ≤ p
  · rw [if_pos h]; exact ⟨fun e => absurd e.symm w0, fun h' => by omega⟩
  · rw [if_neg h]
    by_cases hd : isD (b p) = true
    · rw [if_pos hd]
      exact ⟨fun e => absurd e.symm w1, fun h' => absurd h'.2.1 (by rw [((dis (b p)).1 hd).1]; decide)⟩
    · rw [if_neg hd]
      by_cases hl : isL (b p) = true
      · rw [if_pos hl, wk_j hj]
        exact ⟨fun h' => ⟨by omega, hl, h'⟩, fun h' => h'.2.2⟩
      · rw [if_neg hl]
        refine ⟨fun e => ?_, fun h' => absurd h'.2.1 hl⟩
        exfalso
        revert e
        split
        · rename_i h9
          intro e
          rw [e, wg] at h9
          exact absurd h9 (by decide)
        · exact fun e => w7 e.symm
end QTB
