/-! the reference's digits: six bits each -/
def dg (N i : Nat) : Nat := (N >>> (6 * i)) &&& 63
def up (N i v : Nat) : Nat := N ^^^ (((dg N i) ^^^ v) <<< (6 * i))
theorem dg_lt (N i : Nat) : dg N i < 64 := Nat.lt_of_le_of_lt Nat.and_le_right (by decide)
theorem t63 (t : Nat) : (63 : Nat).testBit t = decide (t < 6) := Nat.testBit_two_pow_sub_one 6 t
theorem dg_bit (N i t : Nat) : (dg N i).testBit t = (decide (t < 6) && N.testBit (6 * i + t)) := by
  unfold dg
  rw [Nat.testBit_and, Nat.testBit_shiftRight, t63, Bool.and_comm]
theorem dg_up {N i v : Nat} (hv : v < 64) (j : Nat) : dg (up N i v) j = if j = i then v else dg N j := by
  have vb : ∀ t, 6 ≤ t → v.testBit t = false := fun t ht => Nat.testBit_lt_two_pow (Nat.lt_of_lt_of_le hv (Nat.pow_le_pow_right (n := 2) (i := 6) (j := t) (by decide) ht))
  apply Nat.eq_of_testBit_eq
  intro t
  rw [dg_bit]
  by_cases h6 : t < 6
  · rw [decide_eq_true h6, Bool.true_and]
    unfold up
    rw [Nat.testBit_xor, Nat.testBit_shiftLeft, Nat.testBit_xor, dg_bit]
    by_cases e : j = i
    · subst e
      rw [if_pos rfl, decide_eq_true (show 6 * j + t ≥ 6 * j by omega), Bool.true_and, show 6 * j + t - 6 * j = t by omega, decide_eq_true h6, Bool.true_and, ← Bool.xor_assoc, Bool.xor_self, Bool.false_xor]
    · rw [if_neg e, dg_bit, decide_eq_true h6, Bool.true_and]
      by_cases l : i < j
      · rw [decide_eq_false (show ¬ 6 * j + t - 6 * i < 6 by omega), vb _ (by omega)]
        simp
      · rw [decide_eq_false (show ¬ 6 * j + t ≥ 6 * i by omega)]
        simp
  · rw [decide_eq_false h6, Bool.false_and]
    by_cases e : j = i
    · rw [if_pos e, vb t (by omega)]
    · rw [if_neg e, dg_bit, decide_eq_false h6, Bool.false_and]
theorem dg_0 (i : Nat) : dg 0 i = 0 := by unfold dg; rw [Nat.zero_shiftRight]; exact Nat.zero_and _
/-- the first n of the digits in hand -/
def rowW (S : SS) (n N : Nat) : Prop := ∀ j, j < n → S.2.1 265 j = nI (dg N j)
theorem rowW.up {S : SS} {n N i v : Nat} (h : rowW S n N) (hv : v < 64) : rowW (ua S 265 i (nI v)) n (up N i v) := by
  intro j hj
  rw [ua_at, dg_up hv]
  by_cases e : j = i
  · rw [if_pos e, if_pos e]
  · rw [if_neg e, if_neg e]; exact h j hj
def rsI (p num d k lead : Nat) : Nat → Nat → Nat
  | 0, N => N
  | i + 1, N => up (rsI p num d k lead i N) (k - d + i) ((dg (rsI p num d k lead i N) (k - d + i) + (p - num / p ^ i % p) * lead) % p)
def rsO (p num d : Nat) : Nat → Nat → Nat
  | 0, N => N
  | c + 1, N => if dg N (d + c) = 0 then rsO p num d c N else rsO p num d c (rsI p num d (d + c) (dg N (d + c)) d (up N (d + c) 0))
section QML
variable {A : AS} {S : SS} {p n : Nat}
theorem m_rests37 (hp : 2 ≤ p) (hp2 : p ≤ 61) {num d k lead N : Nat} (hnum : num < 64) (hd : d ≤ 6) (hk : k < n) (hn : n ≤ 14) (hdk : d ≤ k) (hl : lead < 64) (hP : S.1 119 13 = nI p) (hN : rowW S n N) (K3 : Nat → Int32 → Int32 → Int32 → AH → RR) :
    ∃ S', fX7_rests_37 K3 FU 119 (nI num) (nI d) (nI k) (nI lead) 0 (qH A S) = K3 119 (nI num) (nI d) (nI k + (-1)) (qH A S') ∧ rowW S' n (rsI p num d k lead d N) ∧ eqo (fun x => x = 265) S S' := by
  have key := loopP (fun j i s => fX7_rests_37 K3 j 119 (nI num) (nI d) (nI k) (nI lead) (nI i) (qH A s)) d (fun i s => rowW s n (rsI p num d k lead i N) ∧ eqo (fun x => x = 265) S s) (fun o => ∃ S', o = K3 119 (nI num) (nI d) (nI k + (-1)) (qH A S') ∧ rowW S' n (rsI p num d k lead d N) ∧ eqo (fun x => x = 265) S S') ?_ ?_ d 0 FU S (by omega) (by unfold FU; omega) ⟨hN, eqo.rf⟩
  · exact key
  · rintro j i T hi ⟨g1, g2⟩
    have hP2 : T.1 119 13 = nI p := by rw [(g2.1 119 (by decide)).1]; exact hP
    have d1 := m_digit (A := A) (S := T) (n := num) (p := p) (i := i) (by omega) (by omega) (by omega) (by omega)
    have l1 := Nat.mod_lt (num / p ^ i) (show 0 < p by omega)
    have l2 := dg_lt (rsI p num d k lead i N) (k - d + i)
    have l3 : (p - num / p ^ i % p) * lead ≤ 61 * 63 := Nat.mul_le_mul (by omega) (by omega)
    have l4 := Nat.mod_lt (dg (rsI p num d k lead i N) (k - d + i) + (p - num / p ^ i % p) * lead) (show 0 < p by omega)
    refine ⟨ua T 265 (k - d + i) (nI ((dg (rsI p num d k lead i N) (k - d + i) + (p - num / p ^ i % p) * lead) % p)), ⟨g1.up (by omega), g2.tr (eqo.ua (X := fun x => x = 265) rfl)⟩, ?_⟩
    show fX7_rests_37 K3 (j + 1) 119 (nI num) (nI d) (nI k) (nI lead) (nI i) (qH A T) = _
    rw [fX7_rests_37, if_neg (by rw [nI_leI (by omega) (by omega)]; omega), pk_sub hdk, nI_add]
    simp only [gr_119_21, q_bs, gi_119_13, hP2, d1, q_cal, q_vi]
    rw [q_ai ql_265 (by omega), q_bs, g1 _ (by omega), pk_sub (by omega), pk_mul, nI_add, if_neg (nI_ne0 (by omega) (by omega)), pk_rem (by omega) (by omega) (by omega), q_si ql_265 (by omega), q_bs, nI_1]
  · rintro j T ⟨g1, g2⟩
    refine ⟨T, ?_, g1, g2⟩
    show fX7_rests_37 K3 (j + 1) 119 (nI num) (nI d) (nI k) (nI lead) (nI d) (qH A T) = _
    rw [fX7_rests_37, if_pos (by rw [nI_leI (by omega) (by omega)]; exact Nat.le_refl _)]
theorem m_rests3 (hp : 2 ≤ p) (hp2 : p ≤ 61) {num d' : Nat} (hnum : num < 64) (hd : d' + 1 ≤ 6) (hn : n ≤ 14) : ∀ c K S N, c < K → d' + c < n → S.1 119 13 = nI p → rowW S n N →
    ∃ S', fX7_rests_3 K 119 (nI num) (nI (d' + 1)) (nI (d' + c)) (qH A S) = some (.inl none, qH A S') ∧ rowW S' n (rsO p num (d' + 1) c N) ∧ eqo (fun x => x = 265) S S' := by
  intro c
  induction c with
  | zero =>
    intro K S N hK hc hP hN
    obtain ⟨K, rfl⟩ : ∃ k', K = k' + 1 := ⟨K - 1, by omega⟩
    refine ⟨S, ?_, hN, eqo.rf⟩
    rw [fX7_rests_3, if_pos (by rw [nI_ltI (by omega) (by omega)]; omega)]
  | succ c ih =>
    intro K S N hK hc hP hN
    obtain ⟨K, rfl⟩ : ∃ k', K = k' + 1 := ⟨K - 1, by omega⟩
    have l2 := dg_lt N (d' + 1 + c)
    have e9 : d' + (c + 1) = d' + c + 1 := by omega
    have e8 : d' + 1 + c = d' + (c + 1) := by omega
    rw [fX7_rests_3, if_neg (by rw [nI_ltI (by omega) (by omega)]; omega), gr_119_21, q_bs, q_ai ql_265 (by omega), q_bs, hN _ hc, rsO, e8]
    rw [e8] at l2
    by_cases e : dg N (d' + (c + 1)) = 0
    · rw [if_pos (by rw [e]; rfl), if_pos e, e9, pk_m1]
      exact ih K S N (by omega) (by omega) hP hN
    · rw [if_neg (by rw [qlit, nI_eq (by omega) (by decide)]; exact e), if_neg e, q_bs, q_si ql_265 (by omega), q_bs]
      obtain ⟨S1, a1, a2, a3⟩ := m_rests37 (A := A) (S := ua S 265 (d' + (c + 1)) 0) (n := n) (num := num) (d := d' + 1) (k := d' + (c + 1)) (lead := dg N (d' + (c + 1))) (N := up N (d' + (c + 1)) 0) hp hp2 hnum hd hc hn (by omega) l2 hP (rowW.up (v := 0) hN (by decide)) (fun p0 p2 p3 p4 h => fX7_rests_3 K p0 p2 p3 p4 h)
      have e0 : eqo (fun x => x = 265) S (ua S 265 (d' + (c + 1)) 0) := eqo.ua (X := fun x => x = 265) rfl
      obtain ⟨S2, b1, b2, b3⟩ := ih K S1 _ (by omega) (by omega) (by rw [(a3.1 119 (by decide)).1]; exact hP) a2
      refine ⟨S2, ?_, b2, (e0.tr a3).tr b3⟩
      rw [a1]
      show fX7_rests_3 K 119 (nI num) (nI (d' + 1)) (nI (d' + (c + 1)) + (-1)) (qH A S1) = _
      rw [e9, pk_m1]
      exact b1
theorem m_rests (hp : 2 ≤ p) (hp2 : p ≤ 61) {num d c N : Nat} (hnum : num < 64) (h1 : 1 ≤ d) (hd : d ≤ 6) (hn : n ≤ 14) (hc : d + c ≤ n) (hP : S.1 119 13 = nI p) (hN : rowW S n N) :
    ∃ S', fX7_rests 119 (nI (d + c - 1)) (nI num) (nI d) (qH A S) = some (.inl none, qH A S') ∧ rowW S' n (rsO p num d c N) ∧ eqo (fun x => x = 265) S S' := by
  obtain ⟨d, rfl⟩ : ∃ d', d = d' + 1 := ⟨d - 1, by omega⟩
  obtain ⟨S', a1, a2, a3⟩ := m_rests3 (A := A) hp hp2 hnum hd hn c FU S N (by unfold FU; omega) (by omega) hP hN
  refine ⟨S', ?_, a2, a3⟩
  unfold fX7_rests
  rw [show d + 1 + c - 1 = d + c by omega]
  exact a1
end QML
/-! products of digits -/
def pjN (p a b i : Nat) : Nat → Nat → Nat
  | 0, N => N
  | j + 1, N => up (pjN p a b i j N) (i + j) ((dg (pjN p a b i j N) (i + j) + (a / p ^ i % p) * (b / p ^ j % p)) % p)
def piN (p m a b : Nat) : Nat → Nat
  | 0 => 0
  | i + 1 => pjN p a b i m (piN p m a b i)
def mlN (p m d a b : Nat) : Nat := nuM p (dg (rsO p d m (m - 1) (piN p m a b m))) m 0
section QMM
variable {A : AS} {S : SS} {p m d a b : Nat}
theorem m_mul38 (hp : 2 ≤ p) (hp2 : p ≤ 61) (hm1 : 1 ≤ m) (hm : m ≤ 6) (ha : a < 64) (hb : b < 64) {i N : Nat} (hi : i < m) (hP : S.1 119 13 = nI p) (hM : S.1 119 14 = nI m) (hN : rowW S (2 * m) N) (K27 : Nat → Int32 → Int32 → Int32 → AH → RR) :
    ∃ S', fX7_multiplied_38 K27 FU 119 (nI a) (nI b) (nI i) 0 (qH A S) = K27 119 (nI a) (nI b) (nI (i + 1)) (qH A S') ∧ rowW S' (2 * m) (pjN p a b i m N) ∧ eqo (fun x => x = 265) S S' := by
  have key := loopP (fun k j s => fX7_multiplied_38 K27 k 119 (nI a) (nI b) (nI i) (nI j) (qH A s)) m (fun j s => rowW s (2 * m) (pjN p a b i j N) ∧ eqo (fun x => x = 265) S s) (fun o => ∃ S', o = K27 119 (nI a) (nI b) (nI (i + 1)) (qH A S') ∧ rowW S' (2 * m) (pjN p a b i m N) ∧ eqo (fun x => x = 265) S S') ?_ ?_ m 0 FU S (by omega) (by unfold FU; omega) ⟨hN, eqo.rf⟩
  · exact key
  · rintro k j T hj ⟨g1, g2⟩
    have hP2 : T.1 119 13 = nI p := by rw [(g2.1 119 (by decide)).1]; exact hP
    have hM2 : T.1 119 14 = nI m := by rw [(g2.1 119 (by decide)).1]; exact hM
    have d1 := m_digit (A := A) (S := T) (n := a) (p := p) (i := i) (by omega) (by omega) (by omega) (by omega)
    have d2 := m_digit (A := A) (S := T) (n := b) (p := p) (i := j) (by omega) (by omega) (by omega) (by omega)
    have l1 := Nat.mod_lt (a / p ^ i) (show 0 < p by omega)
    have l2 := Nat.mod_lt (b / p ^ j) (show 0 < p by omega)
    have l3 : (a / p ^ i % p) * (b / p ^ j % p) ≤ 61 * 61 := Nat.mul_le_mul (by omega) (by omega)
    have l4 := dg_lt (pjN p a b i j N) (i + j)
    have l5 := Nat.mod_lt (dg (pjN p a b i j N) (i + j) + (a / p ^ i % p) * (b / p ^ j % p)) (show 0 < p by omega)
    refine ⟨ua T 265 (i + j) (nI ((dg (pjN p a b i j N) (i + j) + (a / p ^ i % p) * (b / p ^ j % p)) % p)), ⟨g1.up (by omega), g2.tr (eqo.ua (X := fun x => x = 265) rfl)⟩, ?_⟩
    show fX7_multiplied_38 K27 (k + 1) 119 (nI a) (nI b) (nI i) (nI j) (qH A T) = _
    rw [fX7_multiplied_38]
    simp only [gi_119_14, q_bs, hM2, gr_119_21, gi_119_13, hP2, d1, d2, q_cal, q_vi, nI_add, nI_1]
    rw [if_neg (by rw [nI_leI (by omega) (by omega)]; omega), q_ai ql_265 (by omega), q_bs, g1 _ (by omega), pk_mul, nI_add, if_neg (nI_ne0 (by omega) (by omega)), pk_rem (by omega) (by omega) (by omega), q_si ql_265 (by omega), q_bs]
  · rintro k T ⟨g1, g2⟩
    have hM2 : T.1 119 14 = nI m := by rw [(g2.1 119 (by decide)).1]; exact hM
    refine ⟨T, ?_, g1, g2⟩
    show fX7_multiplied_38 K27 (k + 1) 119 (nI a) (nI b) (nI i) (nI m) (qH A T) = _
    rw [fX7_multiplied_38, gi_119_14, q_bs, hM2, if_pos (by rw [nI_leI (by omega) (by omega)]; exact Nat.le_refl _), nI_1]
theorem m_multiplied (hp : 2 ≤ p) (hp2 : p ≤ 61) (hm1 : 1 ≤ m) (hm : m ≤ 6) (hd : d < 64) (ha : a < 64) (hb : b < 64) (hP : S.1 119 13 = nI p) (hM : S.1 119 14 = nI m) (hD : S.1 119 16 = nI d) :
    ∃ S', fX7_multiplied 119 (nI a) (nI b) (qH A S) = some (.inl (some (.int (nI (mlN p m d a b)))), qH A S') ∧ eqo (fun x => x = 265) S S' := by
  have h27 : ∀ T, rowW T (2 * m) 0 → eqo (fun x => x = 265) S T → ∃ S', fX7_multiplied_27 FU 119 (nI a) (nI b) 0 (qH A T) = some (.inl (some (.int (nI (mlN p m d a b)))), qH A S') ∧ eqo (fun x => x = 265) S S' := by
    intro T0 hT0 e0
    have key := loopP (fun k i s => fX7_multiplied_27 k 119 (nI a) (nI b) (nI i) (qH A s)) m (fun i s => rowW s (2 * m) (piN p m a b i) ∧ eqo (fun x => x = 265) S s) (fun o => ∃ S', o = some (.inl (some (.int (nI (mlN p m d a b)))), qH A S') ∧ eqo (fun x => x = 265) S S') ?_ ?_ m 0 FU T0 (by omega) (by unfold FU; omega) ⟨hT0, e0⟩
    · exact key
    · rintro k i T hi ⟨g1, g2⟩
      have hP2 : T.1 119 13 = nI p := by rw [(g2.1 119 (by decide)).1]; exact hP
      have hM2 : T.1 119 14 = nI m := by rw [(g2.1 119 (by decide)).1]; exact hM
      obtain ⟨S1, a1, a2, a3⟩ := m_mul38 (A := A) hp hp2 hm1 hm ha hb hi hP2 hM2 g1 (fun p0 p1 p2 p3 h => fX7_multiplied_27 k p0 p1 p2 p3 h)
      refine ⟨S1, ⟨a2, g2.tr a3⟩, ?_⟩
      show fX7_multiplied_27 (k + 1) 119 (nI a) (nI b) (nI i) (qH A T) = _
      rw [fX7_multiplied_27, gi_119_14, q_bs, hM2, if_neg (by rw [nI_leI (by omega) (by omega)]; omega), a1]
    · rintro k T ⟨g1, g2⟩
      have hP2 : T.1 119 13 = nI p := by rw [(g2.1 119 (by decide)).1]; exact hP
      have hM2 : T.1 119 14 = nI m := by rw [(g2.1 119 (by decide)).1]; exact hM
      have hD2 : T.1 119 16 = nI d := by rw [(g2.1 119 (by decide)).1]; exact hD
      obtain ⟨S1, a1, a2, a3⟩ := m_rests (A := A) (num := d) (d := m) (c := m - 1) hp hp2 hd hm1 hm (show 2 * m ≤ 14 by omega) (by omega) hP2 g1
      have hn := m_num (A := A) (S := S1) (g := dg (rsO p d m (m - 1) (piN p m a b m))) hp (by omega) (by rw [(a3.1 119 (by decide)).1]; exact hP2) (by rw [(a3.1 119 (by decide)).1]; exact hM2) hm1 (by omega) (fun j hj => a2 j (by omega))
      refine ⟨S1, ?_, g2.tr a3⟩
      have e2 : (2 : Int32) * nI m - 2 = nI (m + (m - 1) - 1) := by
        rw [show (2 : Int32) = nI 2 from rfl, pk_mul, pk_sub (by omega)]
        congr 1
        omega
      show fX7_multiplied_27 (k + 1) 119 (nI a) (nI b) (nI m) (qH A T) = _
      rw [fX7_multiplied_27]
      simp only [gi_119_14, gi_119_16, q_bs, hM2, hD2]
      rw [if_pos (by rw [nI_leI (by omega) (by omega)]; exact Nat.le_refl _), e2, ob_119, q_cv, a1, q_cal, q_vn, ob_119, q_cv, hn, q_cal, q_vi]
      rfl
  unfold fX7_multiplied
  have key := loopP (fun k i s => fX7_multiplied_2 k 119 (nI a) (nI b) (nI i) (qH A s)) (2 * m) (fun i s => rowW s i 0 ∧ eqo (fun x => x = 265) S s) (fun o => ∃ S', o = some (.inl (some (.int (nI (mlN p m d a b)))), qH A S') ∧ eqo (fun x => x = 265) S S') ?_ ?_ (2 * m) 0 FU S (by omega) (by unfold FU; omega) ⟨fun j hj => by omega, eqo.rf⟩
  · exact key
  · rintro k i T hi ⟨g1, g2⟩
    have hM2 : T.1 119 14 = nI m := by rw [(g2.1 119 (by decide)).1]; exact hM
    refine ⟨ua T 265 i 0, ⟨fun j hj => ?_, g2.tr (eqo.ua (X := fun x => x = 265) rfl)⟩, ?_⟩
    · rw [ua_at, dg_0]
      by_cases e : j = i
      · rw [if_pos e]; rfl
      · rw [if_neg e, g1 j (by omega), dg_0]
    · show fX7_multiplied_2 (k + 1) 119 (nI a) (nI b) (nI i) (qH A T) = _
      rw [fX7_multiplied_2, gi_119_14, q_bs, hM2, show (2 : Int32) = nI 2 from rfl, pk_mul, if_neg (by rw [nI_leI (by omega) (by omega)]; omega), gr_119_21, q_bs, q_si ql_265 (by omega), q_bs, nI_1]
  · rintro k T ⟨g1, g2⟩
    have hM2 : T.1 119 14 = nI m := by rw [(g2.1 119 (by decide)).1]; exact hM
    obtain ⟨S', b1, b2⟩ := h27 T g1 g2
    refine ⟨S', ?_, b2⟩
    show fX7_multiplied_2 (k + 1) 119 (nI a) (nI b) (nI (2 * m)) (qH A T) = _
    rw [fX7_multiplied_2, gi_119_14, q_bs, hM2, show (2 : Int32) = nI 2 from rfl, pk_mul, if_pos (by rw [nI_leI (by omega) (by omega)]; exact Nat.le_refl _)]
    exact b1
end QMM
