/-! how many bits: the JDK's way and the plain one -/
def mkB (b : Nat) : Nat → Nat
  | 0 => 0
  | n + 1 => b + 256 * mkB b n
def pcb (c : Nat) : Nat := fb_ct (fun i => c.testBit i) 8
def s1B (n x : Nat) : Nat := x - (x / 2 &&& mkB 85 n)
def s2B (n x : Nat) : Nat := (x &&& mkB 51 n) + (x / 4 &&& mkB 51 n)
def s3B (n x : Nat) : Nat := (x + x / 16) &&& mkB 15 n
def bsumB : Nat → Nat → Nat
  | 0, _ => 0
  | n + 1, x => pcb (x % 256) + 256 * bsumB n (x / 256)
def bsB : Nat → Nat → Nat
  | 0, _ => 0
  | n + 1, x => pcb (x % 256) + bsB n (x / 256)
theorem and_split {x b M : Nat} (hb : b < 256) : (x &&& (b + 256 * M)) = (x % 256 &&& b) + 256 * (x / 256 &&& M) := by
  have h1 : (x &&& (b + 256 * M)) % 2 ^ 8 = (x % 2 ^ 8) &&& ((b + 256 * M) % 2 ^ 8) := Nat.and_mod_two_pow
  have h2 : (x &&& (b + 256 * M)) / 2 ^ 8 = x / 2 ^ 8 &&& (b + 256 * M) / 2 ^ 8 := Nat.and_div_two_pow
  have e1 : (b + 256 * M) % 2 ^ 8 = b := by omega
  have e2 : (b + 256 * M) / 2 ^ 8 = M := by omega
  rw [e1] at h1
  rw [e2] at h2
  have e3 : (2 : Nat) ^ 8 = 256 := rfl
  rw [e3] at h1 h2
  omega
theorem pb1 : ∀ e, e < 2 → ∀ c, c < 256 → ((e * 128 + c / 2) &&& 85) = (c / 2 &&& 85) ∧ (c / 2 &&& 85) ≤ c := by decide +kernel
theorem pb2 : ∀ e, e < 4 → ∀ c, c < 256 → ((e * 64 + c / 4) &&& 51) = (c / 4 &&& 51) := by decide +kernel
theorem pb3 : ∀ e, e < 5 → ∀ c, c < 69 → ((16 * e + c + c / 16) &&& 15) = ((c + c / 16) &&& 15) := by decide +kernel
theorem pb4 : ∀ c, c < 256 → c - (c / 2 &&& 85) < 256 ∧ ((c - (c / 2 &&& 85)) &&& 51) + ((c - (c / 2 &&& 85)) / 4 &&& 51) < 69 ∧ (((c - (c / 2 &&& 85)) &&& 51) + ((c - (c / 2 &&& 85)) / 4 &&& 51)) % 16 < 5 ∧ ((((c - (c / 2 &&& 85)) &&& 51) + ((c - (c / 2 &&& 85)) / 4 &&& 51) + (((c - (c / 2 &&& 85)) &&& 51) + ((c - (c / 2 &&& 85)) / 4 &&& 51)) / 16) &&& 15) = pcb c ∧ pcb c ≤ 8 := by decide +kernel
theorem s1_step (n y c : Nat) (hc : c < 256) : s1B (n + 1) (256 * y + c) = 256 * s1B n y + (c - (c / 2 &&& 85)) := by
  unfold s1B
  rw [mkB, and_split (by decide)]
  have e1 : (256 * y + c) / 2 / 256 = y / 2 := by omega
  have e2 : (256 * y + c) / 2 % 256 = (y % 2) * 128 + c / 2 := by omega
  rw [e1, e2, (pb1 (y % 2) (Nat.mod_lt _ (by decide)) c hc).1]
  have h1 := (pb1 0 (by decide) c hc).2
  have h2 : (y / 2 &&& mkB 85 n) ≤ y / 2 := Nat.and_le_left
  omega
theorem s2_step (n y c : Nat) (hc : c < 256) : s2B (n + 1) (256 * y + c) = 256 * s2B n y + ((c &&& 51) + (c / 4 &&& 51)) := by
  unfold s2B
  rw [mkB, and_split (by decide), and_split (by decide)]
  have e1 : (256 * y + c) / 4 / 256 = y / 4 := by omega
  have e2 : (256 * y + c) / 4 % 256 = (y % 4) * 64 + c / 4 := by omega
  have e3 : (256 * y + c) / 256 = y := by omega
  have e4 : (256 * y + c) % 256 = c := by omega
  rw [e1, e2, e3, e4, pb2 (y % 4) (Nat.mod_lt _ (by decide)) c hc]
  omega
theorem s3_step (n y c : Nat) (hc : c < 69) (hy : y % 16 < 5) : s3B (n + 1) (256 * y + c) = 256 * s3B n y + ((c + c / 16) &&& 15) := by
  unfold s3B
  rw [mkB, and_split (by decide)]
  have e1 : (256 * y + c + (256 * y + c) / 16) / 256 = y + y / 16 := by omega
  have e2 : (256 * y + c + (256 * y + c) / 16) % 256 = 16 * (y % 16) + c + c / 16 := by omega
  rw [e1, e2, pb3 (y % 16) hy c hc]
  omega
theorem s2_low (n x : Nat) : s2B n (s1B n x) % 16 < 5 := by
  cases n with
  | zero => unfold s2B mkB; simp
  | succ n =>
    have hc : x % 256 < 256 := Nat.mod_lt _ (by decide)
    obtain ⟨p1, p2, p3, -⟩ := pb4 (x % 256) hc
    generalize hcc : x % 256 = c at *
    generalize hyy : x / 256 = y at *
    have e : x = 256 * y + c := by omega
    rw [e, s1_step n y c hc, s2_step n _ _ p1]
    omega
theorem s_all : ∀ n x, x < 256 ^ n → s3B n (s2B n (s1B n x)) = bsumB n x := by
  intro n
  induction n with
  | zero => intro x _; unfold s3B mkB bsumB; simp
  | succ n ih =>
    intro x hx
    have hc : x % 256 < 256 := Nat.mod_lt _ (by decide)
    obtain ⟨p1, p2, p3, p4, -⟩ := pb4 (x % 256) hc
    have hy : x / 256 < 256 ^ n := by
      rw [Nat.pow_succ] at hx
      exact Nat.div_lt_of_lt_mul (by rw [Nat.mul_comm]; exact hx)
    generalize hcc : x % 256 = c at *
    generalize hyy : x / 256 = y at *
    have e : x = 256 * y + c := by omega
    rw [bsumB, hcc, hyy, e, s1_step n y c hc, s2_step n _ _ p1, s3_step n _ _ p2 (s2_low n y), ih y hy, p4]
    omega
theorem pc_bytes : ∀ n x, fb_ct (fun i => x.testBit i) (8 * n) = bsB n x := by
  intro n
  induction n with
  | zero => intro x; rfl
  | succ n ih =>
    intro x
    rw [show 8 * (n + 1) = 8 + 8 * n by omega, fb_ct_split, bsB, ← ih (x / 256)]
    congr 1
    · unfold pcb
      refine fb_ct_cong (fun k hk => ?_)
      rw [show 256 = 2 ^ 8 from rfl, Nat.testBit_mod_two_pow]
      simp [hk]
    · refine fb_ct_cong (fun k hk => ?_)
      rw [show 256 = 2 ^ 8 from rfl, Nat.testBit_div_two_pow, Nat.add_comm]
theorem pcb_le (x : Nat) : pcb (x % 256) ≤ 8 := (pb4 (x % 256) (Nat.mod_lt _ (by decide))).2.2.2.2
def ctB (n : Nat) : Nat := fb_ct (fun i => n.testBit i) 64
theorem pc_add (b0 b1 b2 b3 b4 b5 b6 b7 : Nat) (h0 : b0 ≤ 8) (h1 : b1 ≤ 8) (h2 : b2 ≤ 8) (h3 : b3 ≤ 8) (h4 : b4 ≤ 8) (h5 : b5 ≤ 8) (h6 : b6 ≤ 8) (h7 : b7 ≤ 8) (w w4 w5 w6 : Nat) (e : w = b0 + 256 * (b1 + 256 * (b2 + 256 * (b3 + 256 * (b4 + 256 * (b5 + 256 * (b6 + 256 * (b7 + 256 * 0)))))))) (e4 : w4 = w + w / 256) (e5 : w5 = w4 + w4 / 65536) (e6 : w6 = w5 + w5 / 4294967296) :
    w6 % 128 = b0 + (b1 + (b2 + (b3 + (b4 + (b5 + (b6 + (b7 + 0))))))) ∧ w < 2 ^ 60 ∧ w4 < 2 ^ 61 ∧ w5 < 2 ^ 62 ∧ w6 < 2 ^ 63 := by
  have q4 : w / 256 = b1 + 256 * (b2 + 256 * (b3 + 256 * (b4 + 256 * (b5 + 256 * (b6 + 256 * b7))))) := by omega
  rw [q4, e] at e4
  have q5 : w4 / 65536 = (b2 + b3) + 256 * ((b3 + b4) + 256 * ((b4 + b5) + 256 * ((b5 + b6) + 256 * ((b6 + b7) + 256 * b7)))) := by omega
  rw [q5, e4] at e5
  have q6 : w5 / 4294967296 = (b4 + b5 + b6 + b7) + 256 * ((b5 + b6 + b7) + 256 * ((b6 + b7) + 256 * b7)) := by omega
  rw [q6, e5] at e6
  clear q4 q5 q6
  refine ⟨?_, by clear e4 e5 e6; omega, by clear e e5 e6; omega, by clear e e4 e6; omega, by clear e e4 e5; omega⟩
  clear e e4 e5
  have q7 : w6 = 128 * (2 * ((b1 + b2 + b3 + b4 + b5 + b6 + b7) + 256 * ((b2 + b3 + b4 + b5 + b6 + b7) + 256 * ((b3 + b4 + b5 + b6 + b7) + 256 * ((b4 + b5 + b6 + b7) + 256 * ((b5 + b6 + b7) + 256 * ((b6 + b7) + 256 * b7))))))) + (b0 + b1 + b2 + b3 + b4 + b5 + b6 + b7) := by
    clear h0 h1 h2 h3 h4 h5 h6 h7
    omega
  rw [q7, Nat.mul_add_mod, Nat.mod_eq_of_lt (by clear q7 e6; omega)]
  clear q7 e6
  omega
theorem pc_bit {n : Nat} (hn : n < 2 ^ 64) (h : AH) : fJ13_bitCount_95d88 (lN n) h = some (.inl (some (.int (nI (ctB n)))), h) := by
  have hs := s_all 8 n (by rw [show 256 ^ 8 = 2 ^ 64 from by decide]; exact hn)
  have m5 : mkB 85 8 = 6148914691236517205 := by decide
  have m3 : mkB 51 8 = 3689348814741910323 := by decide
  have m1 : mkB 15 8 = 1085102592571150095 := by decide
  have a1 : (n / 2 &&& mkB 85 8) ≤ n / 2 := Nat.and_le_left
  have b1 : s1B 8 n ≤ n := by unfold s1B; omega
  have a2 : (s1B 8 n &&& mkB 51 8) ≤ mkB 51 8 := Nat.and_le_right
  have a3 : (s1B 8 n / 4 &&& mkB 51 8) ≤ mkB 51 8 := Nat.and_le_right
  have b2 : s2B 8 (s1B 8 n) < 2 ^ 63 := by unfold s2B; omega
  have L5 : (6148914691236517205 : Int64) = lN 6148914691236517205 := rfl
  have L3 : (3689348814741910323 : Int64) = lN 3689348814741910323 := rfl
  have L1 : (1085102592571150095 : Int64) = lN 1085102592571150095 := rfl
  have w1 : lN n - (((lN n).toUInt64 >>> ((1 : Int32).toInt64.toUInt64 &&& Int64.toUInt64 63)).toInt64 &&& 6148914691236517205) = lN (s1B 8 n) := by
    rw [show (1 : Int32) = nI 1 from rfl, wb_shr hn (by decide), L5, wb_and (by omega) (by decide), lN_sub (Nat.le_trans Nat.and_le_left (by omega))]
    unfold s1B; rw [m5]
  have w2 : (lN (s1B 8 n) &&& 3689348814741910323) + (((lN (s1B 8 n)).toUInt64 >>> ((2 : Int32).toInt64.toUInt64 &&& Int64.toUInt64 63)).toInt64 &&& 3689348814741910323) = lN (s2B 8 (s1B 8 n)) := by
    rw [show (2 : Int32) = nI 2 from rfl, wb_shr (by omega) (by decide), L3, wb_and (by omega) (by decide), wb_and (by omega) (by decide), lN_add]
    unfold s2B; rw [m3]
  have w3 : (lN (s2B 8 (s1B 8 n)) + ((lN (s2B 8 (s1B 8 n))).toUInt64 >>> ((4 : Int32).toInt64.toUInt64 &&& Int64.toUInt64 63)).toInt64) &&& 1085102592571150095 = lN (bsumB 8 n) := by
    rw [show (4 : Int32) = nI 4 from rfl, wb_shr (by omega) (by decide), lN_add, L1, wb_and (by omega) (by decide), ← hs]
    unfold s3B; rw [m1]
  obtain ⟨r1, r2, r3, r4, r5⟩ := pc_add _ _ _ _ _ _ _ _ (pcb_le n) (pcb_le (n / 256)) (pcb_le (n / 256 / 256)) (pcb_le (n / 256 / 256 / 256)) (pcb_le (n / 256 / 256 / 256 / 256)) (pcb_le (n / 256 / 256 / 256 / 256 / 256)) (pcb_le (n / 256 / 256 / 256 / 256 / 256 / 256)) (pcb_le (n / 256 / 256 / 256 / 256 / 256 / 256 / 256)) (bsumB 8 n) _ _ _ rfl rfl rfl rfl
  have hc : ctB n = bsB 8 n := pc_bytes 8 n
  unfold fJ13_bitCount_95d88
  simp only [q_letJ]
  rw [w1, w2, w3, show (8 : Int32) = nI 8 from rfl, wb_shr (by omega) (by decide), lN_add, show (16 : Int32) = nI 16 from rfl, wb_shr (by omega) (by decide), lN_add, show (32 : Int32) = nI 32 from rfl, wb_shr (by omega) (by decide), lN_add, lN_i, hc]
  congr 5
  have : ∀ x : Nat, nI x &&& 127 = nI (x % 128) := fun x => by
    rw [show (127 : Int32) = nI (2 ^ 7 - 1) from rfl, fa_mask]
  rw [this]
  congr 1
