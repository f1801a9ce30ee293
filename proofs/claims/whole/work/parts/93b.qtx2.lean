/-! the component's tape: cutting -/
section QTC
variable {A : AS} {S : SS} {b : Nat → Nat} {n : Nat}
/-- the places of the pieces -/
def ps (b : Nat → Nat) (n : Nat) : Nat → Nat
  | 0 => sk b n 0
  | i + 1 => if ps b n i < n then nx b n (ps b n i) else n
theorem ps_le : ∀ i, ps b n i ≤ n
  | 0 => sk_le (Nat.zero_le _)
  | i + 1 => by
    unfold ps
    split
    · rename_i h; exact nx_le h
    · exact Nat.le_refl _
theorem ps_sk : ∀ i, sk b n (ps b n i) = ps b n i
  | 0 => sk_id
  | i + 1 => by
    unfold ps
    split
    · exact nx_id
    · exact sk_n (Nat.le_refl _)
/-- a piece that is there: the first one, or one behind another -/
def pv (b : Nat → Nat) (n i : Nat) : Prop := ∀ j, j < i → ps b n j < n
theorem pv_ge : ∀ i, pv b n i → i ≤ ps b n i
  | 0, _ => Nat.zero_le _
  | i + 1, h => by
    have h1 := pv_ge i (fun j hj => h j (by omega))
    have h2 := h i (by omega)
    unfold ps
    rw [if_pos h2]
    have := nx_gt (b := b) (n := n) (p := ps b n i)
    omega
def bytesR (b : Nat → Nat) (n r : Nat) (S : SS) : Prop := ∀ i, i < n → S.2.1 r i = nI (b i) ∧ b i < 256
/-- the pieces cut, the first so many -/
def TE (b : Nat → Nat) (n m : Nat) (S : SS) : Prop := ∀ i, i < m → S.2.1 91 i = nI (kd b n (ps b n i)) ∧ S.2.1 92 i = nI (ps b n i) ∧ (kd b n (ps b n i) = 1 → S.2.1 93 i = nI (min (nv b n (ps b n i)) 1000000))
theorem t_dig {c : Nat} (hc : c < 256) : fX5_isDigit (nI c) (qH A S) = some (.inl (some (.int (if isD c = true then 1 else 0))), qH A S) := by
  unfold fX5_isDigit isD
  rw [z_br0, z_br1]
  by_cases h1 : c < 48
  · rw [if_pos (by rw [qlit, nI_ltI (by omega) (by decide)]; exact h1), if_neg (by simp; omega)]
  · rw [if_neg (by rw [qlit, nI_ltI (by omega) (by decide)]; exact h1)]
    by_cases h2 : 57 < c
    · rw [if_pos (by rw [qlit, nI_ltI (by decide) (by omega)]; exact h2), if_neg (by simp; omega)]
    · rw [if_neg (by rw [qlit, nI_ltI (by decide) (by omega)]; exact h2), if_pos (by simp; omega)]
theorem t_let {c : Nat} (hc : c < 256) : fX5_isLetter (nI c) (qH A S) = some (.inl (some (.int (if isL c = true then 1 else 0))), qH A S) := by
  unfold fX5_isLetter isL
  rw [z_br0, z_br1]
  by_cases h1 : c < 97
  · rw [if_pos (by rw [qlit, nI_ltI (by omega) (by decide)]; exact h1), if_neg (by simp; omega)]
  · rw [if_neg (by rw [qlit, nI_ltI (by omega) (by decide)]; exact h1)]
    by_cases h2 : 122 < c
    · rw [if_pos (by rw [qlit, nI_ltI (by decide) (by omega)]; exact h2), if_neg (by simp; omega)]
    · rw [if_neg (by rw [qlit, nI_ltI (by decide) (by omega)]; exact h2), if_pos (by simp; omega)]
theorem t_sign {c : Nat} (hc : c < 256) : fX5_isSign (nI c) (qH A S) = some (.inl (some (.int (if isG c = true then 1 else 0))), qH A S) := by
  have t12 : fX5_isSign_12 (nI c) (qH A S) = some (.inl (some (.int (if c = 45 ∨ c = 59 ∨ c = 94 then 1 else 0))), qH A S) := by
    unfold fX5_isSign_12
    rw [z_br0, z_br1]
    by_cases h1 : c = 45
    · rw [if_pos (by rw [h1]; rfl), if_pos (Or.inl h1)]
    · rw [if_neg (by rw [qlit, nI_eq (by omega) (by decide)]; exact h1)]
      by_cases h2 : c = 59
      · rw [if_pos (by rw [h2]; rfl), if_pos (by omega)]
      · rw [if_neg (by rw [qlit, nI_eq (by omega) (by decide)]; exact h2)]
        by_cases h3 : c = 94
        · rw [if_pos (by rw [h3]; rfl), if_pos (by omega)]
        · rw [if_neg (by rw [qlit, nI_eq (by omega) (by decide)]; exact h3), if_neg (by omega)]
  unfold fX5_isSign
  rw [t12, z_br1]
  unfold isG
  by_cases h1 : c < 40
  · rw [if_pos (by rw [qlit, nI_ltI (by omega) (by decide)]; exact h1)]
    by_cases h2 : c = 45 ∨ c = 59 ∨ c = 94
    · rw [if_pos h2, if_pos (by simp; omega)]
    · rw [if_neg h2, if_neg (by simp; omega)]
  · rw [if_neg (by rw [qlit, nI_ltI (by omega) (by decide)]; exact h1)]
    by_cases h3 : c ≤ 43
    · rw [if_pos (by rw [qlit, nI_leI (by omega) (by decide)]; exact h3), if_pos (by simp; omega)]
    · rw [if_neg (by rw [qlit, nI_leI (by omega) (by decide)]; exact h3)]
      by_cases h2 : c = 45 ∨ c = 59 ∨ c = 94
      · rw [if_pos h2, if_pos (by simp; omega)]
      · rw [if_neg h2, if_neg (by simp; omega)]
theorem z_sl {j : Nat} (hj : j < 5) : zslen (UInt32.ofNat j) = some (nI (wlen j)) := by
  obtain ⟨-, h1, -, h2, -⟩ := wl_ok j hj
  unfold zslen
  rw [h2, if_pos hj, h1]
theorem z_sc {j i : Nat} (hj : j < 5) (hi : i < wlen j) : zschar (UInt32.ofNat j) (nI i) = some (nI (wch j i)) := by
  obtain ⟨⟨h0, -⟩, -, h1, h2, h3⟩ := wl_ok j hj
  unfold zschar
  rw [h2, h1, if_pos ⟨hj, nI_in hi (by omega)⟩, nI_clamp (by omega), (h3 i hi).1]
theorem t_spells (hn : n ≤ 300) (hb : bytesR b n 90 S) {j p e : Nat} (hj : j < 5) (hpe : p ≤ e) (he : e ≤ n) : ∃ B : Bool, (B = true ↔ wd b j p e) ∧ fX5_spells 89 (UInt32.ofNat j) (nI p) (nI e) (qH A S) = some (.inl (some (.int (if B = true then 1 else 0))), qH A S) := by
  obtain ⟨⟨h0, -⟩, -, -, -, h3⟩ := wl_ok j hj
  unfold fX5_spells
  rw [z_sl hj, q_bs, pk_sub hpe]
  by_cases c : wlen j = e - p
  · rw [if_pos (by rw [c])]
    have key : ∀ d i K, i + d = wlen j → d < K → (∀ i', i' < i → b (p + i') = wch j i') → ∃ B : Bool, (B = true ↔ wd b j p e) ∧ fX5_spells_15 K 89 (UInt32.ofNat j) (nI p) (nI i) (qH A S) = some (.inl (some (.int (if B = true then 1 else 0))), qH A S) := by
      intro d
      induction d with
      | zero =>
        intro i K h1 h2 h3
        obtain ⟨K, rfl⟩ : ∃ k', K = k' + 1 := ⟨K - 1, by omega⟩
        refine ⟨true, ⟨fun _ => ⟨c, fun i' hi' => h3 i' (by omega)⟩, fun _ => rfl⟩, ?_⟩
        rw [fX5_spells_15, z_sl hj, q_bs, if_pos (by rw [nI_leI (by omega) (by omega)]; omega), z_br1]
        rfl
      | succ d ih =>
        intro i K h1 h2 h3
        obtain ⟨K, rfl⟩ : ∃ k', K = k' + 1 := ⟨K - 1, by omega⟩
        obtain ⟨b1, b2⟩ := hb (p + i) (by omega)
        have hl := (wl_ok j hj).2.2.2.2 i (by omega)
        have hw : wch j i < 256 := by
          have := hl.2
          unfold isL at this
          simp at this
          omega
        rw [fX5_spells_15, z_sl hj, q_bs, if_neg (by rw [nI_leI (by omega) (by omega)]; omega), z_sc hj (by omega), q_bs, gr_89_4, q_bs, nI_add, q_ai ql_90 (by omega), q_bs, b1, nI_1]
        by_cases e9 : wch j i = b (p + i)
        · rw [if_pos (by rw [e9])]
          refine ih (i + 1) K (by omega) (by omega) (fun i' hi' => ?_)
          by_cases e8 : i' = i
          · rw [e8, e9]
          · exact h3 i' (by omega)
        · rw [if_neg (by rw [nI_eq (by omega) (by omega)]; exact e9)]
          refine ⟨false, ⟨fun h => absurd h (by decide), fun h => absurd (h.2 i (by omega)).symm e9⟩, ?_⟩
          rw [z_br0]
          rfl
    exact key (wlen j) 0 FU (by omega) (by unfold FU; omega) (fun i' hi' => by omega)
  · rw [if_neg (by rw [nI_eq (by omega) (by omega)]; exact c)]
    refine ⟨false, ⟨fun h => absurd h (by decide), fun h => absurd h.1 c⟩, ?_⟩
    rw [z_br0]
    rfl
theorem t_word (hn : n ≤ 300) (hb : bytesR b n 90 S) {p e : Nat} (hpe : p ≤ e) (he : e ≤ n) : fX5_wordKind 89 (nI p) (nI e) (qH A S) = some (.inl (some (.int (nI (wk b p e)))), qH A S) := by
  obtain ⟨B0, x0, y0⟩ := t_spells (A := A) (j := 0) hn hb (by decide) hpe he
  obtain ⟨B1, x1, y1⟩ := t_spells (A := A) (j := 1) hn hb (by decide) hpe he
  obtain ⟨B2, x2, y2⟩ := t_spells (A := A) (j := 2) hn hb (by decide) hpe he
  obtain ⟨B3, x3, y3⟩ := t_spells (A := A) (j := 3) hn hb (by decide) hpe he
  obtain ⟨B4, x4, y4⟩ := t_spells (A := A) (j := 4) hn hb (by decide) hpe he
  unfold fX5_wordKind
  simp only [ob_89, q_cv, y0, y1, y2, y3, y4, q_cal, q_vi, q_pm0]
  by_cases c0 : B0 = true
  · rw [if_neg (fun h => h c0), (wk_j (j := 0) (by decide)).mpr (x0.mp c0)]; rfl
  · rw [if_pos c0]
    by_cases c1 : B1 = true
    · rw [if_neg (fun h => h c1), (wk_j (j := 1) (by decide)).mpr (x1.mp c1)]; rfl
    · rw [if_pos c1]
      by_cases c2 : B2 = true
      · rw [if_neg (fun h => h c2), (wk_j (j := 2) (by decide)).mpr (x2.mp c2)]; rfl
      · rw [if_pos c2]
        by_cases c3 : B3 = true
        · rw [if_neg (fun h => h c3), (wk_j (j := 3) (by decide)).mpr (x3.mp c3)]; rfl
        · rw [if_pos c3]
          by_cases c4 : B4 = true
          · rw [if_neg (fun h => h c4), (wk_j (j := 4) (by decide)).mpr (x4.mp c4)]; rfl
          · rw [if_pos c4]
            have : wk b p e = 7 := by
              unfold wk
              rw [if_neg (fun h => c0 (x0.mpr h)), if_neg (fun h => c1 (x1.mpr h)), if_neg (fun h => c2 (x2.mpr h)), if_neg (fun h => c3 (x3.mpr h)), if_neg (fun h => c4 (x4.mpr h))]
            rw [this]
            rfl
theorem dv_min (b : Nat → Nat) (p M : Nat) (hM : 9 ≤ M) : ∀ k, min (10 * min (dv b p k) M + (b (p + k) - 48)) M = min (dv b p (k + 1)) M := by
  intro k
  show _ = min (10 * dv b p k + (b (p + k) - 48)) M
  omega
theorem kd_sk {p : Nat} (h : p < n) : kd b n p = if isD (b p) = true then 1 else if isL (b p) = true then wk b p (en b n p) else if isG (b p) = true then b p else 7 := by
  unfold kd
  rw [if_neg (by omega)]
theorem t_one (hn : n ≤ 300) (hb : bytesR b n 90 S) {k p : Nat} (hk : k < 301) (hp : p < n) : ∃ S', fX5_cutOne 89 (nI k) (nI p) (nI n) (qH A S) = some (.inl (some (.int (nI (en b n p)))), qH A S') ∧ eqo (fun x => x = 91 ∨ x = 93) S S' ∧ (∀ i, i ≠ k → S'.2.1 91 i = S.2.1 91 i ∧ S'.2.1 93 i = S.2.1 93 i) ∧ S'.2.1 91 k = nI (kd b n p) ∧ (kd b n p = 1 → S'.2.1 93 k = nI (min (nv b n p) 1000000)) := by
  obtain ⟨b1, b2⟩ := hb p hp
  unfold fX5_cutOne
  rw [gr_89_4, q_bs, q_ai ql_90 (by omega), q_bs, b1, t_dig b2, q_cal, q_vi]
  by_cases cd : isD (b p) = true
  · rw [if_pos cd, if_neg (by decide)]
    have hkd : kd b n p = 1 := kd_1.mpr ⟨hp, cd⟩
    have c48 : 48 ≤ b p ∧ b p ≤ 57 := by unfold isD at cd; simp at cd; exact cd
    have hen : en b n p = re isD b n (p + 1) := by unfold en; rw [if_pos cd]
    have fin : ∀ v, fX5_cutOne_76 89 (nI k) (nI (en b n p)) (nI v) (qH A S) = some (.inl (some (.int (nI (en b n p)))), qH A (ua (ua S 91 k 1) 93 k (nI v))) := by
      intro v
      unfold fX5_cutOne_76
      rw [gr_89_5, q_bs, q_si ql_91 hk, q_bs, gr_89_7, q_bs, q_si ql_93 hk, q_bs]
    have key : ∀ d e K, e + d = en b n p → d < K → p + 1 ≤ e → fX5_cutOne_28 K 89 (nI k) (nI n) (nI e) (nI (min (dv b p (e - p)) 1000000)) (qH A S) = some (.inl (some (.int (nI (en b n p)))), qH A (ua (ua S 91 k 1) 93 k (nI (min (nv b n p) 1000000)))) := by
      intro d
      induction d with
      | zero =>
        intro e K h1 h2 h3
        obtain ⟨K, rfl⟩ : ∃ k', K = k' + 1 := ⟨K - 1, by omega⟩
        obtain rfl : e = en b n p := by omega
        have hle := en_le (b := b) hp
        rw [fX5_cutOne_28]
        by_cases c : n ≤ en b n p
        · rw [if_pos (by rw [nI_leI (by omega) (by omega)]; exact c), fin]
          rfl
        · have hnot : ¬ isD (b (en b n p)) = true := by rw [hen]; exact re_not (by rw [← hen]; omega)
          obtain ⟨e1, e2⟩ := hb (en b n p) (by omega)
          rw [if_neg (by rw [nI_leI (by omega) (by omega)]; exact c), gr_89_4, q_bs, q_ai ql_90 (by omega), q_bs, e1, t_dig e2, if_neg hnot, q_cal, q_vi, if_pos rfl, fin]
          rfl
      | succ d ih =>
        intro e K h1 h2 h3
        obtain ⟨K, rfl⟩ : ∃ k', K = k' + 1 := ⟨K - 1, by omega⟩
        have hle := en_le (b := b) hp
        have hy : isD (b e) = true := re_in (Q := isD) (b := b) (n := n) (p := p + 1) (by omega) h3 (by rw [← hen]; omega)
        obtain ⟨e1, e2⟩ := hb e (by omega)
        have c9 : 48 ≤ b e ∧ b e ≤ 57 := by unfold isD at hy; simp at hy; exact hy
        have hmin := dv_min b p 1000000 (by decide) (e - p)
        rw [show p + (e - p) = e by omega, show e - p + 1 = e + 1 - p by omega] at hmin
        have hv : (if (1000000 : Int32) < (((10 : Int32) * nI (min (dv b p (e - p)) 1000000)) + nI (b e)) - 48 then (1000000 : Int32) else (((10 : Int32) * nI (min (dv b p (e - p)) 1000000)) + nI (b e)) - 48) = nI (min (dv b p (e + 1 - p)) 1000000) := by
          rw [← hmin, show (10 : Int32) = nI 10 from rfl, pk_mul, nI_add, show (48 : Int32) = nI 48 from rfl, pk_sub (by omega), show (1000000 : Int32) = nI 1000000 from rfl]
          by_cases c : 1000000 < 10 * min (dv b p (e - p)) 1000000 + b e - 48
          · rw [if_pos (by rw [nI_ltI (by decide) (by omega)]; exact c)]; congr 1; omega
          · rw [if_neg (by rw [nI_ltI (by decide) (by omega)]; exact c)]; congr 1; omega
        rw [fX5_cutOne_28, if_neg (by rw [nI_leI (by omega) (by omega)]; omega), gr_89_4, q_bs, q_ai ql_90 (by omega), q_bs, e1, t_dig e2, if_pos hy, q_cal, q_vi, if_neg (by decide), gr_89_4, q_bs, q_ai ql_90 (by omega), q_bs, e1, q_let, hv, nI_1]
        exact ih (e + 1) K (by omega) (by omega) (by omega)
    have h0 : nI (b p) - 48 = nI (min (dv b p (p + 1 - p)) 1000000) := by
      rw [show p + 1 - p = 1 by omega]
      show _ = nI (min (10 * 0 + (b (p + 0) - 48)) 1000000)
      rw [Nat.add_zero, show (48 : Int32) = nI 48 from rfl, pk_sub (by omega)]
      congr 1
      omega
    have hgt : p < en b n p := en_gt
    have hle := en_le (b := b) hp
    refine ⟨ua (ua S 91 k 1) 93 k (nI (min (nv b n p) 1000000)), ?_, (eqo.ua (Or.inl rfl)).tr (eqo.ua (Or.inr rfl)), fun i hi => ?_, ?_, fun _ => ?_⟩
    · rw [nI_1, h0]
      exact key (en b n p - (p + 1)) (p + 1) FU (by omega) (by unfold FU; omega) (Nat.le_refl _)
    · rw [ua_ne (show (91 : Nat) ≠ 93 by decide), ua_at, if_neg hi, ua_at, if_neg hi, ua_ne (show (93 : Nat) ≠ 91 by decide)]
      exact ⟨rfl, rfl⟩
    · rw [ua_ne (by decide), ua_at, if_pos rfl, hkd]; rfl
    · rw [ua_at, if_pos rfl]
  · rw [if_neg cd, if_pos rfl, t_let b2, q_cal, q_vi]
    have h1n : kd b n p ≠ 1 := fun h => cd (kd_1.mp h).2
    by_cases cl : isL (b p) = true
    · rw [if_pos cl, if_neg (by decide)]
      have hen : en b n p = re isL b n (p + 1) := by unfold en; rw [if_neg cd, if_pos cl]
      have hle := en_le (b := b) hp
      have hgt : p < en b n p := en_gt
      have hkd : kd b n p = wk b p (en b n p) := by rw [kd_sk hp, if_neg cd, if_pos cl]
      have fin : fX5_cutOne_127 89 (nI k) (nI p) (nI (en b n p)) (qH A S) = some (.inl (some (.int (nI (en b n p)))), qH A (ua S 91 k (nI (kd b n p)))) := by
        unfold fX5_cutOne_127
        rw [gr_89_5, q_bs, ob_89, q_cv, t_word hn hb (by omega) hle, q_cal, q_vi, q_si ql_91 hk, q_bs, hkd]
      have key : ∀ d e K, e + d = en b n p → d < K → p + 1 ≤ e → fX5_cutOne_102 K 89 (nI k) (nI p) (nI n) (nI e) (qH A S) = some (.inl (some (.int (nI (en b n p)))), qH A (ua S 91 k (nI (kd b n p)))) := by
        intro d
        induction d with
        | zero =>
          intro e K h1 h2 h3
          obtain ⟨K, rfl⟩ : ∃ k', K = k' + 1 := ⟨K - 1, by omega⟩
          obtain rfl : e = en b n p := by omega
          rw [fX5_cutOne_102]
          by_cases c : n ≤ en b n p
          · rw [if_pos (by rw [nI_leI (by omega) (by omega)]; exact c), fin]
          · have hnot : ¬ isL (b (en b n p)) = true := by rw [hen]; exact re_not (by rw [← hen]; omega)
            obtain ⟨e1, e2⟩ := hb (en b n p) (by omega)
            rw [if_neg (by rw [nI_leI (by omega) (by omega)]; exact c), gr_89_4, q_bs, q_ai ql_90 (by omega), q_bs, e1, t_let e2, if_neg hnot, q_cal, q_vi, if_pos rfl, fin]
        | succ d ih =>
          intro e K h1 h2 h3
          obtain ⟨K, rfl⟩ : ∃ k', K = k' + 1 := ⟨K - 1, by omega⟩
          have hy : isL (b e) = true := re_in (Q := isL) (b := b) (n := n) (p := p + 1) (by omega) h3 (by rw [← hen]; omega)
          obtain ⟨e1, e2⟩ := hb e (by omega)
          rw [fX5_cutOne_102, if_neg (by rw [nI_leI (by omega) (by omega)]; omega), gr_89_4, q_bs, q_ai ql_90 (by omega), q_bs, e1, t_let e2, if_pos hy, q_cal, q_vi, if_neg (by decide), nI_1]
          exact ih (e + 1) K (by omega) (by omega) (by omega)
      refine ⟨ua S 91 k (nI (kd b n p)), ?_, eqo.ua (Or.inl rfl), fun i hi => ?_, ?_, fun h => absurd h h1n⟩
      · rw [nI_1]
        exact key (en b n p - (p + 1)) (p + 1) FU (by omega) (by unfold FU; omega) (Nat.le_refl _)
      · rw [ua_at, if_neg hi, ua_ne (by decide)]
        exact ⟨rfl, rfl⟩
      · rw [ua_at, if_pos rfl]
    · rw [if_neg cl, if_pos rfl, gr_89_5, q_bs, t_sign b2, q_cal, q_vi]
      have hen : en b n p = p + 1 := by unfold en; rw [if_neg cd, if_neg cl]
      unfold fX5_cutOne_163
      refine ⟨ua S 91 k (nI (kd b n p)), ?_, eqo.ua (Or.inl rfl), fun i hi => ?_, ?_, fun h => absurd h h1n⟩
      · rw [kd_sk hp, if_neg cd, if_neg cl, hen, nI_1]
        by_cases cg : isG (b p) = true
        · rw [if_pos cg, if_pos cg, if_neg (by decide), q_si ql_91 hk, q_bs]
        · rw [if_neg cg, if_neg cg, if_pos rfl, q_si ql_91 hk, q_bs]
          rfl
      · rw [ua_at, if_neg hi, ua_ne (by decide)]
        exact ⟨rfl, rfl⟩
      · rw [ua_at, if_pos rfl]
end QTC
