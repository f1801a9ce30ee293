/-! the same products, made for the kernel -/
noncomputable def dgK (N i : Nat) : Nat := Nat.land (Nat.shiftRight N (Nat.mul 6 i)) 63
noncomputable def upK (N i v : Nat) : Nat := Nat.xor N (Nat.shiftLeft (Nat.xor (dgK N i) v) (Nat.mul 6 i))
noncomputable def rsIK (p num d k lead i N : Nat) : Nat := Nat.rec (motive := fun _ => Nat) N (fun i M => upK M (Nat.add (Nat.sub k d) i) (Nat.mod (Nat.add (dgK M (Nat.add (Nat.sub k d) i)) (Nat.mul (Nat.sub p (Nat.mod (Nat.div num (Nat.pow p i)) p)) lead)) p)) i
noncomputable def rsOK (p num d c : Nat) : Nat → Nat := Nat.rec (motive := fun _ => Nat → Nat) (fun N => N) (fun c ih N => cond (Nat.beq (dgK N (Nat.add d c)) 0) (ih N) (ih (rsIK p num d (Nat.add d c) (dgK N (Nat.add d c)) d (upK N (Nat.add d c) 0)))) c
noncomputable def pjK (p a b i j N : Nat) : Nat := Nat.rec (motive := fun _ => Nat) N (fun j M => upK M (Nat.add i j) (Nat.mod (Nat.add (dgK M (Nat.add i j)) (Nat.mul (Nat.mod (Nat.div a (Nat.pow p i)) p) (Nat.mod (Nat.div b (Nat.pow p j)) p))) p)) j
noncomputable def piK (p m a b i : Nat) : Nat := Nat.rec (motive := fun _ => Nat) 0 (fun i M => pjK p a b i m M) i
noncomputable def nuK (p N i : Nat) : Nat → Nat := Nat.rec (motive := fun _ => Nat → Nat) (fun v => v) (fun i ih v => ih (Nat.add (Nat.mul v p) (dgK N i))) i
noncomputable def mlK (p m d a b : Nat) : Nat := nuK p (rsOK p d m (Nat.sub m 1) (piK p m a b m)) m 0
theorem rsI_K (p num d k lead : Nat) : ∀ i N, rsI p num d k lead i N = rsIK p num d k lead i N
  | 0, _ => rfl
  | i + 1, N => by
    rw [rsI, rsI_K p num d k lead i N]
    rfl
theorem rsO_K (p num d : Nat) : ∀ c N, rsO p num d c N = rsOK p num d c N
  | 0, _ => rfl
  | c + 1, N => by
    rw [rsO, rsO_K p num d c, rsO_K p num d c, rsI_K]
    show _ = cond (Nat.beq (dg N (d + c)) 0) (rsOK p num d c N) (rsOK p num d c (rsIK p num d (d + c) (dg N (d + c)) d (up N (d + c) 0)))
    by_cases e : dg N (d + c) = 0
    · rw [if_pos e, e]
      rfl
    · rw [if_neg e]
      have : Nat.beq (dg N (d + c)) 0 = false := by
        cases h : Nat.beq (dg N (d + c)) 0 with
        | false => rfl
        | true => exact absurd (Nat.eq_of_beq_eq_true h) e
      rw [this]
      rfl
theorem pj_K (p a b i : Nat) : ∀ j N, pjN p a b i j N = pjK p a b i j N
  | 0, _ => rfl
  | j + 1, N => by
    rw [pjN, pj_K p a b i j N]
    rfl
theorem pi_K (p m a b : Nat) : ∀ i, piN p m a b i = piK p m a b i
  | 0 => rfl
  | i + 1 => by
    rw [piN, pi_K p m a b i, pj_K]
    rfl
theorem nu_K (p N : Nat) : ∀ i v, nuM p (dg N) i v = nuK p N i v
  | 0, _ => rfl
  | i + 1, v => by
    rw [nuM, nu_K p N i]
    rfl
theorem ml_K (p m d a b : Nat) : mlN p m d a b = mlK p m d a b := by
  unfold mlN
  rw [nu_K, rsO_K, pi_K]
  rfl
noncomputable def rwK (p m d t a q : Nat) : Bool := Nat.rec (motive := fun _ => Bool) true (fun b ih => cond ih (Nat.beq (mlK p m d a b) (Nat.mod (Nat.shiftRight t (Nat.mul 6 (Nat.add (Nat.mul 64 a) b))) 64)) false) q
noncomputable def chK (p m d t q lo n : Nat) : Bool := Nat.rec (motive := fun _ => Bool) true (fun i ih => cond ih (rwK p m d t (Nat.add lo i) q) false) n
theorem rwK_of {p m d t a : Nat} : ∀ q, rwK p m d t a q = true → ∀ b, b < q → mlK p m d a b = Nat.mod (Nat.shiftRight t (Nat.mul 6 (Nat.add (Nat.mul 64 a) b))) 64
  | 0, _, _, h => by omega
  | q + 1, h, b, hb => by
    have h' : cond (rwK p m d t a q) (Nat.beq (mlK p m d a q) (Nat.mod (Nat.shiftRight t (Nat.mul 6 (Nat.add (Nat.mul 64 a) q))) 64)) false = true := h
    cases h1 : rwK p m d t a q with
    | false => rw [h1] at h'; exact absurd (show false = true from h') (by decide)
    | true =>
      rw [h1] at h'
      by_cases e : b = q
      · subst e; exact Nat.eq_of_beq_eq_true h'
      · exact rwK_of q h1 b (by omega)
theorem chK_of {p m d t q lo : Nat} : ∀ n, chK p m d t q lo n = true → ∀ i, i < n → rwK p m d t (lo + i) q = true
  | 0, _, _, h => by omega
  | n + 1, h, i, hi => by
    have h' : cond (chK p m d t q lo n) (rwK p m d t (lo + n) q) false = true := h
    cases h1 : chK p m d t q lo n with
    | false => rw [h1] at h'; exact absurd (show false = true from h') (by decide)
    | true =>
      rw [h1] at h'
      by_cases e : i = n
      · subst e; exact h'
      · exact chK_of n h1 i (by omega)
theorem kc_0_0 : chK 2 1 0 (qtM.getD 0 0) 2 0 2 = true := by decide +kernel
theorem kc_1_0 : chK 2 2 3 (qtM.getD 1 0) 4 0 4 = true := by decide +kernel
theorem kc_2_0 : chK 2 3 3 (qtM.getD 2 0) 8 0 8 = true := by decide +kernel
theorem kc_3_0 : chK 2 4 3 (qtM.getD 3 0) 16 0 16 = true := by decide +kernel
theorem kc_4_0 : chK 2 5 5 (qtM.getD 4 0) 32 0 16 = true := by decide +kernel
theorem kc_4_16 : chK 2 5 5 (qtM.getD 4 0) 32 16 16 = true := by decide +kernel
theorem kc_5_0 : chK 2 6 3 (qtM.getD 5 0) 64 0 8 = true := by decide +kernel
theorem kc_5_8 : chK 2 6 3 (qtM.getD 5 0) 64 8 8 = true := by decide +kernel
theorem kc_5_16 : chK 2 6 3 (qtM.getD 5 0) 64 16 8 = true := by decide +kernel
theorem kc_5_24 : chK 2 6 3 (qtM.getD 5 0) 64 24 8 = true := by decide +kernel
theorem kc_5_32 : chK 2 6 3 (qtM.getD 5 0) 64 32 8 = true := by decide +kernel
theorem kc_5_40 : chK 2 6 3 (qtM.getD 5 0) 64 40 8 = true := by decide +kernel
theorem kc_5_48 : chK 2 6 3 (qtM.getD 5 0) 64 48 8 = true := by decide +kernel
theorem kc_5_56 : chK 2 6 3 (qtM.getD 5 0) 64 56 8 = true := by decide +kernel
theorem kc_6_0 : chK 3 1 0 (qtM.getD 6 0) 3 0 3 = true := by decide +kernel
theorem kc_7_0 : chK 3 2 1 (qtM.getD 7 0) 9 0 9 = true := by decide +kernel
theorem kc_8_0 : chK 3 3 7 (qtM.getD 8 0) 27 0 16 = true := by decide +kernel
theorem kc_8_16 : chK 3 3 7 (qtM.getD 8 0) 27 16 11 = true := by decide +kernel
theorem kc_9_0 : chK 5 1 0 (qtM.getD 9 0) 5 0 5 = true := by decide +kernel
theorem kc_10_0 : chK 5 2 2 (qtM.getD 10 0) 25 0 16 = true := by decide +kernel
theorem kc_10_16 : chK 5 2 2 (qtM.getD 10 0) 25 16 9 = true := by decide +kernel
theorem kc_11_0 : chK 7 1 0 (qtM.getD 11 0) 7 0 7 = true := by decide +kernel
theorem kc_12_0 : chK 7 2 1 (qtM.getD 12 0) 49 0 16 = true := by decide +kernel
theorem kc_12_16 : chK 7 2 1 (qtM.getD 12 0) 49 16 16 = true := by decide +kernel
theorem kc_12_32 : chK 7 2 1 (qtM.getD 12 0) 49 32 16 = true := by decide +kernel
theorem kc_12_48 : chK 7 2 1 (qtM.getD 12 0) 49 48 1 = true := by decide +kernel
theorem kc_13_0 : chK 11 1 0 (qtM.getD 13 0) 11 0 11 = true := by decide +kernel
theorem kc_14_0 : chK 13 1 0 (qtM.getD 14 0) 13 0 13 = true := by decide +kernel
theorem kc_15_0 : chK 17 1 0 (qtM.getD 15 0) 17 0 17 = true := by decide +kernel
theorem kc_16_0 : chK 19 1 0 (qtM.getD 16 0) 19 0 19 = true := by decide +kernel
theorem kc_17_0 : chK 23 1 0 (qtM.getD 17 0) 23 0 23 = true := by decide +kernel
theorem kc_18_0 : chK 29 1 0 (qtM.getD 18 0) 29 0 29 = true := by decide +kernel
theorem kc_19_0 : chK 31 1 0 (qtM.getD 19 0) 31 0 31 = true := by decide +kernel
theorem kc_20_0 : chK 37 1 0 (qtM.getD 20 0) 37 0 37 = true := by decide +kernel
theorem kc_21_0 : chK 41 1 0 (qtM.getD 21 0) 41 0 41 = true := by decide +kernel
theorem kc_22_0 : chK 43 1 0 (qtM.getD 22 0) 43 0 43 = true := by decide +kernel
theorem kc_23_0 : chK 47 1 0 (qtM.getD 23 0) 47 0 47 = true := by decide +kernel
theorem kc_24_0 : chK 53 1 0 (qtM.getD 24 0) 53 0 53 = true := by decide +kernel
theorem kc_25_0 : chK 59 1 0 (qtM.getD 25 0) 59 0 59 = true := by decide +kernel
theorem kc_26_0 : chK 61 1 0 (qtM.getD 26 0) 61 0 61 = true := by decide +kernel
theorem kf_0 {a b : Nat} (ha : a < 2) (hb : b < 2) : mlK 2 1 0 a b = mu 0 a b := by
  have h := rwK_of 2 (chK_of _ kc_0_0 (a - 0) (by omega)) b hb
  rw [show 0 + (a - 0) = a by omega] at h
  exact h
theorem kf_1 {a b : Nat} (ha : a < 4) (hb : b < 4) : mlK 2 2 3 a b = mu 1 a b := by
  have h := rwK_of 4 (chK_of _ kc_1_0 (a - 0) (by omega)) b hb
  rw [show 0 + (a - 0) = a by omega] at h
  exact h
theorem kf_2 {a b : Nat} (ha : a < 8) (hb : b < 8) : mlK 2 3 3 a b = mu 2 a b := by
  have h := rwK_of 8 (chK_of _ kc_2_0 (a - 0) (by omega)) b hb
  rw [show 0 + (a - 0) = a by omega] at h
  exact h
theorem kf_3 {a b : Nat} (ha : a < 16) (hb : b < 16) : mlK 2 4 3 a b = mu 3 a b := by
  have h := rwK_of 16 (chK_of _ kc_3_0 (a - 0) (by omega)) b hb
  rw [show 0 + (a - 0) = a by omega] at h
  exact h
theorem kf_4 {a b : Nat} (ha : a < 32) (hb : b < 32) : mlK 2 5 5 a b = mu 4 a b := by
  by_cases c16 : a < 16
  · have h := rwK_of 32 (chK_of _ kc_4_0 (a - 0) (by omega)) b hb
    rw [show 0 + (a - 0) = a by omega] at h
    exact h
  · have h := rwK_of 32 (chK_of _ kc_4_16 (a - 16) (by omega)) b hb
    rw [show 16 + (a - 16) = a by omega] at h
    exact h
theorem kf_5 {a b : Nat} (ha : a < 64) (hb : b < 64) : mlK 2 6 3 a b = mu 5 a b := by
  by_cases c32 : a < 32
  · by_cases c16 : a < 16
    · by_cases c8 : a < 8
      · have h := rwK_of 64 (chK_of _ kc_5_0 (a - 0) (by omega)) b hb
        rw [show 0 + (a - 0) = a by omega] at h
        exact h
      · have h := rwK_of 64 (chK_of _ kc_5_8 (a - 8) (by omega)) b hb
        rw [show 8 + (a - 8) = a by omega] at h
        exact h
    · by_cases c24 : a < 24
      · have h := rwK_of 64 (chK_of _ kc_5_16 (a - 16) (by omega)) b hb
        rw [show 16 + (a - 16) = a by omega] at h
        exact h
      · have h := rwK_of 64 (chK_of _ kc_5_24 (a - 24) (by omega)) b hb
        rw [show 24 + (a - 24) = a by omega] at h
        exact h
  · by_cases c48 : a < 48
    · by_cases c40 : a < 40
      · have h := rwK_of 64 (chK_of _ kc_5_32 (a - 32) (by omega)) b hb
        rw [show 32 + (a - 32) = a by omega] at h
        exact h
      · have h := rwK_of 64 (chK_of _ kc_5_40 (a - 40) (by omega)) b hb
        rw [show 40 + (a - 40) = a by omega] at h
        exact h
    · by_cases c56 : a < 56
      · have h := rwK_of 64 (chK_of _ kc_5_48 (a - 48) (by omega)) b hb
        rw [show 48 + (a - 48) = a by omega] at h
        exact h
      · have h := rwK_of 64 (chK_of _ kc_5_56 (a - 56) (by omega)) b hb
        rw [show 56 + (a - 56) = a by omega] at h
        exact h
theorem kf_6 {a b : Nat} (ha : a < 3) (hb : b < 3) : mlK 3 1 0 a b = mu 6 a b := by
  have h := rwK_of 3 (chK_of _ kc_6_0 (a - 0) (by omega)) b hb
  rw [show 0 + (a - 0) = a by omega] at h
  exact h
theorem kf_7 {a b : Nat} (ha : a < 9) (hb : b < 9) : mlK 3 2 1 a b = mu 7 a b := by
  have h := rwK_of 9 (chK_of _ kc_7_0 (a - 0) (by omega)) b hb
  rw [show 0 + (a - 0) = a by omega] at h
  exact h
theorem kf_8 {a b : Nat} (ha : a < 27) (hb : b < 27) : mlK 3 3 7 a b = mu 8 a b := by
  by_cases c16 : a < 16
  · have h := rwK_of 27 (chK_of _ kc_8_0 (a - 0) (by omega)) b hb
    rw [show 0 + (a - 0) = a by omega] at h
    exact h
  · have h := rwK_of 27 (chK_of _ kc_8_16 (a - 16) (by omega)) b hb
    rw [show 16 + (a - 16) = a by omega] at h
    exact h
theorem kf_9 {a b : Nat} (ha : a < 5) (hb : b < 5) : mlK 5 1 0 a b = mu 9 a b := by
  have h := rwK_of 5 (chK_of _ kc_9_0 (a - 0) (by omega)) b hb
  rw [show 0 + (a - 0) = a by omega] at h
  exact h
theorem kf_10 {a b : Nat} (ha : a < 25) (hb : b < 25) : mlK 5 2 2 a b = mu 10 a b := by
  by_cases c16 : a < 16
  · have h := rwK_of 25 (chK_of _ kc_10_0 (a - 0) (by omega)) b hb
    rw [show 0 + (a - 0) = a by omega] at h
    exact h
  · have h := rwK_of 25 (chK_of _ kc_10_16 (a - 16) (by omega)) b hb
    rw [show 16 + (a - 16) = a by omega] at h
    exact h
theorem kf_11 {a b : Nat} (ha : a < 7) (hb : b < 7) : mlK 7 1 0 a b = mu 11 a b := by
  have h := rwK_of 7 (chK_of _ kc_11_0 (a - 0) (by omega)) b hb
  rw [show 0 + (a - 0) = a by omega] at h
  exact h
theorem kf_12 {a b : Nat} (ha : a < 49) (hb : b < 49) : mlK 7 2 1 a b = mu 12 a b := by
  by_cases c32 : a < 32
  · by_cases c16 : a < 16
    · have h := rwK_of 49 (chK_of _ kc_12_0 (a - 0) (by omega)) b hb
      rw [show 0 + (a - 0) = a by omega] at h
      exact h
    · have h := rwK_of 49 (chK_of _ kc_12_16 (a - 16) (by omega)) b hb
      rw [show 16 + (a - 16) = a by omega] at h
      exact h
  · by_cases c48 : a < 48
    · have h := rwK_of 49 (chK_of _ kc_12_32 (a - 32) (by omega)) b hb
      rw [show 32 + (a - 32) = a by omega] at h
      exact h
    · have h := rwK_of 49 (chK_of _ kc_12_48 (a - 48) (by omega)) b hb
      rw [show 48 + (a - 48) = a by omega] at h
      exact h
theorem kf_13 {a b : Nat} (ha : a < 11) (hb : b < 11) : mlK 11 1 0 a b = mu 13 a b := by
  have h := rwK_of 11 (chK_of _ kc_13_0 (a - 0) (by omega)) b hb
  rw [show 0 + (a - 0) = a by omega] at h
  exact h
theorem kf_14 {a b : Nat} (ha : a < 13) (hb : b < 13) : mlK 13 1 0 a b = mu 14 a b := by
  have h := rwK_of 13 (chK_of _ kc_14_0 (a - 0) (by omega)) b hb
  rw [show 0 + (a - 0) = a by omega] at h
  exact h
theorem kf_15 {a b : Nat} (ha : a < 17) (hb : b < 17) : mlK 17 1 0 a b = mu 15 a b := by
  have h := rwK_of 17 (chK_of _ kc_15_0 (a - 0) (by omega)) b hb
  rw [show 0 + (a - 0) = a by omega] at h
  exact h
theorem kf_16 {a b : Nat} (ha : a < 19) (hb : b < 19) : mlK 19 1 0 a b = mu 16 a b := by
  have h := rwK_of 19 (chK_of _ kc_16_0 (a - 0) (by omega)) b hb
  rw [show 0 + (a - 0) = a by omega] at h
  exact h
theorem kf_17 {a b : Nat} (ha : a < 23) (hb : b < 23) : mlK 23 1 0 a b = mu 17 a b := by
  have h := rwK_of 23 (chK_of _ kc_17_0 (a - 0) (by omega)) b hb
  rw [show 0 + (a - 0) = a by omega] at h
  exact h
theorem kf_18 {a b : Nat} (ha : a < 29) (hb : b < 29) : mlK 29 1 0 a b = mu 18 a b := by
  have h := rwK_of 29 (chK_of _ kc_18_0 (a - 0) (by omega)) b hb
  rw [show 0 + (a - 0) = a by omega] at h
  exact h
theorem kf_19 {a b : Nat} (ha : a < 31) (hb : b < 31) : mlK 31 1 0 a b = mu 19 a b := by
  have h := rwK_of 31 (chK_of _ kc_19_0 (a - 0) (by omega)) b hb
  rw [show 0 + (a - 0) = a by omega] at h
  exact h
theorem kf_20 {a b : Nat} (ha : a < 37) (hb : b < 37) : mlK 37 1 0 a b = mu 20 a b := by
  have h := rwK_of 37 (chK_of _ kc_20_0 (a - 0) (by omega)) b hb
  rw [show 0 + (a - 0) = a by omega] at h
  exact h
theorem kf_21 {a b : Nat} (ha : a < 41) (hb : b < 41) : mlK 41 1 0 a b = mu 21 a b := by
  have h := rwK_of 41 (chK_of _ kc_21_0 (a - 0) (by omega)) b hb
  rw [show 0 + (a - 0) = a by omega] at h
  exact h
theorem kf_22 {a b : Nat} (ha : a < 43) (hb : b < 43) : mlK 43 1 0 a b = mu 22 a b := by
  have h := rwK_of 43 (chK_of _ kc_22_0 (a - 0) (by omega)) b hb
  rw [show 0 + (a - 0) = a by omega] at h
  exact h
theorem kf_23 {a b : Nat} (ha : a < 47) (hb : b < 47) : mlK 47 1 0 a b = mu 23 a b := by
  have h := rwK_of 47 (chK_of _ kc_23_0 (a - 0) (by omega)) b hb
  rw [show 0 + (a - 0) = a by omega] at h
  exact h
theorem kf_24 {a b : Nat} (ha : a < 53) (hb : b < 53) : mlK 53 1 0 a b = mu 24 a b := by
  have h := rwK_of 53 (chK_of _ kc_24_0 (a - 0) (by omega)) b hb
  rw [show 0 + (a - 0) = a by omega] at h
  exact h
theorem kf_25 {a b : Nat} (ha : a < 59) (hb : b < 59) : mlK 59 1 0 a b = mu 25 a b := by
  have h := rwK_of 59 (chK_of _ kc_25_0 (a - 0) (by omega)) b hb
  rw [show 0 + (a - 0) = a by omega] at h
  exact h
theorem kf_26 {a b : Nat} (ha : a < 61) (hb : b < 61) : mlK 61 1 0 a b = mu 26 a b := by
  have h := rwK_of 61 (chK_of _ kc_26_0 (a - 0) (by omega)) b hb
  rw [show 0 + (a - 0) = a by omega] at h
  exact h
theorem ml_mu {f a b : Nat} (hf : f < nF) (ha : a < qF f) (hb : b < qF f) : mlN (pF f) (mF f) (dF f) a b = mu f a b := by
  rw [ml_K]
  match f, hf with
  | 0, _ => exact kf_0 ha hb
  | 1, _ => exact kf_1 ha hb
  | 2, _ => exact kf_2 ha hb
  | 3, _ => exact kf_3 ha hb
  | 4, _ => exact kf_4 ha hb
  | 5, _ => exact kf_5 ha hb
  | 6, _ => exact kf_6 ha hb
  | 7, _ => exact kf_7 ha hb
  | 8, _ => exact kf_8 ha hb
  | 9, _ => exact kf_9 ha hb
  | 10, _ => exact kf_10 ha hb
  | 11, _ => exact kf_11 ha hb
  | 12, _ => exact kf_12 ha hb
  | 13, _ => exact kf_13 ha hb
  | 14, _ => exact kf_14 ha hb
  | 15, _ => exact kf_15 ha hb
  | 16, _ => exact kf_16 ha hb
  | 17, _ => exact kf_17 ha hb
  | 18, _ => exact kf_18 ha hb
  | 19, _ => exact kf_19 ha hb
  | 20, _ => exact kf_20 ha hb
  | 21, _ => exact kf_21 ha hb
  | 22, _ => exact kf_22 ha hb
  | 23, _ => exact kf_23 ha hb
  | 24, _ => exact kf_24 ha hb
  | 25, _ => exact kf_25 ha hb
  | 26, _ => exact kf_26 ha hb
  | n + 27, h => exact absurd h (by unfold nF; omega)
