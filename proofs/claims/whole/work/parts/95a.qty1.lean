/-! the reference's reading: small things -/
theorem usus {S : SS} {a k : Nat} {v w : Int32} : us (us S a k v) a k w = us S a k w := by
  unfold us
  congr 1
  funext x
  by_cases e : x = a
  · rw [if_pos e, if_pos e]
    funext j
    show (if j = k then w else (if a = a then upd (S.1 a) k v else S.1 a) j) = (if j = k then w else S.1 a j)
    by_cases ej : j = k
    · rw [if_pos ej, if_pos ej]
    · rw [if_neg ej, if_neg ej, if_pos rfl]
      show (if j = k then v else S.1 a j) = _
      rw [if_neg ej]
  · rw [if_neg e, if_neg e]
    exact if_neg e
def cb (b : Nat → Nat) (n k : Nat) : Int32 := if k < n then nI (b k) else -1
theorem cb_eq {b : Nat → Nat} {n k c : Nat} (hb : ∀ i, i < n → b i < 256) (hc : c < 256) : cb b n k = nI c ↔ (k < n ∧ b k = c) := by
  unfold cb
  by_cases h : k < n
  · rw [if_pos h, nI_eq (by have := hb k h; omega) (by omega)]
    exact ⟨fun e => ⟨h, e⟩, fun e => e.2⟩
  · rw [if_neg h]
    refine ⟨fun e => ?_, fun e => absurd e.1 h⟩
    exfalso
    have h9 : ¬ nI c < 0 := nI_pos (by omega)
    rw [← e] at h9
    exact h9 (by decide)
/-- what the reading leaves alone -/
def frm (N : Nat) (S S' : SS) : Prop := eqo (fun x => x = 119 ∨ N ≤ x) S S' ∧ (∀ k, k ≠ 4 → k ≠ 6 → k ≠ 7 → k ≠ 22 → k ≠ 23 → S'.1 119 k = S.1 119 k) ∧ (S'.1 119 6 = 0 → S.1 119 6 = 0 ∧ S'.1 119 7 = S.1 119 7)
theorem frm.rf {N : Nat} {S : SS} : frm N S S := ⟨eqo.rf, fun _ _ _ _ _ _ => rfl, fun h => ⟨h, rfl⟩⟩
theorem frm.tr {N N' : Nat} {S S' S'' : SS} (h : frm N S S') (h' : frm N' S' S'') (hn : N ≤ N') : frm N S S'' := ⟨h.1.tr (h'.1.mo (fun x hx => by omega)), fun k a1 a2 a3 a4 a5 => (h'.2.1 k a1 a2 a3 a4 a5).trans (h.2.1 k a1 a2 a3 a4 a5), fun h9 => ⟨(h.2.2 (h'.2.2 h9).1).1, (h'.2.2 h9).2.trans (h.2.2 (h'.2.2 h9).1).2⟩⟩
theorem frm.us {N k : Nat} {S : SS} {v : Int32} (hk : k = 4 ∨ k = 22 ∨ k = 23) : frm N S (us S 119 k v) := ⟨eqo.us (Or.inl rfl), fun j a1 a2 a3 a4 a5 => by rw [us_at, if_neg (by omega)], fun h => by rw [us_at, if_neg (by omega)] at h; rw [us_at, if_neg (by omega)]; exact ⟨h, rfl⟩⟩
theorem frm.uA {N a : Nat} {S : SS} {g : Nat → Int32} (h : N ≤ a) : frm N S (uA S a g) := ⟨eqo.uA (Or.inr h), fun _ _ _ _ _ _ => rfl, fun h => ⟨h, rfl⟩⟩
theorem frm.ro {N r : Nat} {S S' : SS} (h : frm N S S') (hr : r ≠ 119) (hn : r < N) : S'.2.1 r = S.2.1 r := (h.1.1 r (by omega)).2
def MC (b : Nat → Nat) (n f c : Nat) (W : Nat → Nat → Nat) (S : SS) : Prop := n ≤ 300 ∧ (∀ i, i < n → b i < 256) ∧ TabM f S ∧ mrR S 123 (f, c, W) ∧ S.1 119 3 = nI n ∧ bytesR b n 121 S
theorem mc_frm {b : Nat → Nat} {n f c N : Nat} {W : Nat → Nat → Nat} {S S' : SS} (h : MC b n f c W S) (hX : frm N S S') (hN : 271 ≤ N) : MC b n f c W S' := by
  obtain ⟨h1, h2, h3, h4, h5, h6⟩ := h
  exact ⟨h1, h2, tm_gen h4.1 h3 (fun r hr => hX.ro (by omega) (by omega)) (fun k hk => hX.2.1 k (by omega) (by omega) (by omega) (by omega) (by omega)), mr_ro h4 (hX.ro (by decide) (by omega)), by rw [hX.2.1 3 (by decide) (by decide) (by decide) (by decide) (by decide)]; exact h5, fun i hi => by rw [hX.ro (by decide) (by omega)]; exact h6 i hi⟩
/-- the text alone -/
def MT (b : Nat → Nat) (n : Nat) (S : SS) : Prop := n ≤ 300 ∧ (∀ i, i < n → b i < 256) ∧ S.1 119 3 = nI n ∧ bytesR b n 121 S
theorem mt_of {b : Nat → Nat} {n f c : Nat} {W : Nat → Nat → Nat} {S : SS} (h : MC b n f c W S) : MT b n S := ⟨h.1, h.2.1, h.2.2.2.2.1, h.2.2.2.2.2⟩
theorem mt_frm {b : Nat → Nat} {n N : Nat} {S S' : SS} (h : MT b n S) (hX : frm N S S') (hN : 271 ≤ N) : MT b n S' := ⟨h.1, h.2.1, by rw [hX.2.1 3 (by decide) (by decide) (by decide) (by decide) (by decide)]; exact h.2.2.1, fun i hi => by rw [hX.ro (by decide) (by omega)]; exact h.2.2.2 i hi⟩
section QTL
variable {A : AS} {S : SS} {b : Nat → Nat} {n a : Nat}
theorem m_byteAt (hT : MT b n S) {k : Nat} (hk : k < 2 ^ 31) : fX7_byteAt 119 (nI k) (qH A S) = some (.inl (some (.int (cb b n k))), qH A S) := by
  obtain ⟨h1, h2, h3, h4⟩ := hT
  unfold fX7_byteAt cb
  rw [gi_119_3, q_bs, h3]
  by_cases c : k < n
  · rw [if_pos (by rw [nI_ltI hk (by omega)]; exact c), if_pos c, gr_119_8, q_bs, q_ai ql_121 (by omega), q_bs, (h4 k c).1]
  · rw [if_neg (by rw [nI_ltI hk (by omega)]; exact c), if_neg c]
theorem mt_us {k : Nat} {v : Int32} (h : MT b n S) (hk : k ≠ 3) : MT b n (us S 119 k v) := ⟨h.1, h.2.1, by rw [us_at, if_neg (Ne.symm hk)]; exact h.2.2.1, h.2.2.2⟩
theorem m_here (hT : MT b n S) (h4 : S.1 119 4 = nI a) (ha : a ≤ n) : fX7_here 119 (qH A S) = some (.inl (some (.int (cb b n (sk b n a)))), qH A (us S 119 4 (nI (sk b n a)))) := by
  have key : ∀ d a K S, a + d = n → d < K → MT b n S → S.1 119 4 = nI a → fX7_here_0 K 119 (qH A S) = some (.inl (some (.int (cb b n (sk b n a)))), qH A (us S 119 4 (nI (sk b n a)))) := by
    intro d
    induction d with
    | zero =>
      intro a K S h1 h2 hT h4
      obtain ⟨K, rfl⟩ : ∃ k', K = k' + 1 := ⟨K - 1, by omega⟩
      have hn := hT.1
      have hs : sk b n a = a := sk_n (by omega)
      have hne : ¬ cb b n a = 32 := by
        rw [show (32 : Int32) = nI 32 from rfl, cb_eq hT.2.1 (by decide)]
        omega
      have hself : us S 119 4 (nI a) = S := by
        unfold us
        congr 1
        funext x
        by_cases e : x = 119
        · rw [if_pos e, e]
          funext j
          show (if j = 4 then nI a else S.1 119 j) = S.1 119 j
          by_cases ej : j = 4
          · rw [if_pos ej, ej, h4]
          · rw [if_neg ej]
        · rw [if_neg e]
      rw [fX7_here_0, gi_119_4, q_bs, h4, ob_119, q_cv, m_byteAt hT (by omega), q_cal, q_vi, if_neg hne, gi_119_4, q_bs, h4, ob_119, q_cv, m_byteAt hT (by omega), q_cal, q_vi, hs, hself]
    | succ d ih =>
      intro a K S h1 h2 hT h4
      obtain ⟨K, rfl⟩ : ∃ k', K = k' + 1 := ⟨K - 1, by omega⟩
      have hn := hT.1
      by_cases c : b a = 32
      · have he : cb b n a = 32 := (cb_eq (c := 32) hT.2.1 (by decide)).mpr ⟨by omega, c⟩
        have h9 := ih (a + 1) K (us S 119 4 (nI (a + 1))) (by omega) (by omega) (mt_us hT (by decide)) (by rw [us_at, if_pos rfl])
        rw [fX7_here_0, gi_119_4, q_bs, h4, ob_119, q_cv, m_byteAt hT (by omega), q_cal, q_vi, if_pos he, gi_119_4, q_bs, h4, nI_1, pi_119_4, q_bs, h9, usus, sk_sp (by omega) c]
      · have hne : ¬ cb b n a = 32 := by
          rw [show (32 : Int32) = nI 32 from rfl, cb_eq hT.2.1 (by decide)]
          exact fun h => c h.2
        have hs : sk b n a = a := sk_ns (by omega) c
        have hself : us S 119 4 (nI a) = S := by
          unfold us
          congr 1
          funext x
          by_cases e : x = 119
          · rw [if_pos e, e]
            funext j
            show (if j = 4 then nI a else S.1 119 j) = S.1 119 j
            by_cases ej : j = 4
            · rw [if_pos ej, ej, h4]
            · rw [if_neg ej]
          · rw [if_neg e]
        rw [fX7_here_0, gi_119_4, q_bs, h4, ob_119, q_cv, m_byteAt hT (by omega), q_cal, q_vi, if_neg hne, gi_119_4, q_bs, h4, ob_119, q_cv, m_byteAt hT (by omega), q_cal, q_vi, hs, hself]
  unfold fX7_here
  exact key (n - a) a FU S (by omega) (by have := hT.1; unfold FU; omega) hT h4
theorem m_fine1 (h : S.1 119 6 = 0) : fX7_fine 119 (qH A S) = some (.inl (some (.int 1)), qH A S) := by
  unfold fX7_fine
  rw [gi_119_6, q_bs, h, if_pos rfl, z_br1]
theorem m_fine0 {k : Nat} (h : S.1 119 6 = nI k) (h0 : 0 < k) (h5 : k < 5) : fX7_fine 119 (qH A S) = some (.inl (some (.int 0)), qH A S) := by
  unfold fX7_fine
  rw [gi_119_6, q_bs, h, if_neg (nI_ne0 h0 (by omega)), z_br0]
def wrS (S : SS) (k p : Nat) : SS := us (us S 119 6 (nI k)) 119 7 (nI p)
theorem m_wrong1 (h : S.1 119 6 = 0) {k p : Nat} {k9 : Int32} (hk : k9 = nI k) : fX7_wrong 119 k9 (nI p) (qH A S) = some (.inl none, qH A (wrS S k p)) := by
  unfold fX7_wrong wrS
  rw [gi_119_6, q_bs, h, if_pos rfl, hk, pi_119_6, q_bs, pi_119_7, q_bs]
theorem m_wrong0 {k : Nat} (h : S.1 119 6 = nI k) (h0 : 0 < k) (h5 : k < 5) (x y : Int32) : fX7_wrong 119 x y (qH A S) = some (.inl none, qH A S) := by
  unfold fX7_wrong
  rw [gi_119_6, q_bs, h, if_neg (nI_ne0 h0 (by omega))]
theorem wr_v {S : SS} {k p : Nat} : (wrS S k p).1 119 6 = nI k ∧ (wrS S k p).1 119 7 = nI p ∧ (∀ j, j ≠ 6 → j ≠ 7 → (wrS S k p).1 119 j = S.1 119 j) ∧ (wrS S k p).2 = S.2 := by
  unfold wrS
  refine ⟨by rw [us_at, if_neg (by decide), us_at, if_pos rfl], by rw [us_at, if_pos rfl], fun j h1 h2 => by rw [us_at, if_neg h2, us_at, if_neg h1], rfl⟩
theorem wr_frm {S : SS} {N k p : Nat} (hk : ¬ nI k = 0) : frm N S (wrS S k p) := by
  unfold wrS
  refine ⟨(eqo.us (Or.inl rfl)).tr (eqo.us (Or.inl rfl)), fun j a1 a2 a3 a4 a5 => by rw [us_at, if_neg a3, us_at, if_neg a2], fun h => ?_⟩
  rw [us_at, if_neg (by decide), us_at, if_pos rfl] at h
  exact absurd h hk
theorem m_dig {c : Int32} {k : Nat} (hb : ∀ i, i < n → b i < 256) (hc : c = cb b n k) : fX7_isDigit c (qH A S) = some (.inl (some (.int (if kd b n k = 1 then 1 else 0))), qH A S) := by
  subst hc
  unfold fX7_isDigit
  rw [z_br0, z_br1]
  unfold cb
  by_cases h : k < n
  · have hb9 := hb k h
    rw [if_pos h]
    by_cases h1 : b k < 48
    · rw [if_pos (by rw [qlit, nI_ltI (by omega) (by decide)]; exact h1), if_neg (by rw [kd_1]; unfold isD; simp; omega)]
    · rw [if_neg (by rw [qlit, nI_ltI (by omega) (by decide)]; exact h1)]
      by_cases h2 : 57 < b k
      · rw [if_pos (by rw [qlit, nI_ltI (by decide) (by omega)]; exact h2), if_neg (by rw [kd_1]; unfold isD; simp; omega)]
      · rw [if_neg (by rw [qlit, nI_ltI (by decide) (by omega)]; exact h2), if_pos (by rw [kd_1]; unfold isD; simp; omega)]
  · rw [if_neg h, if_pos (by decide), if_neg (by rw [kd_1]; omega)]
theorem m_small (hb : ∀ i, i < n → b i < 256) {k : Nat} : fX7_isSmall (cb b n k) (qH A S) = some (.inl (some (.int (if k < n ∧ isL (b k) = true then 1 else 0))), qH A S) := by
  unfold fX7_isSmall
  rw [z_br0, z_br1]
  unfold cb
  by_cases h : k < n
  · have hb9 := hb k h
    rw [if_pos h]
    by_cases h1 : b k < 97
    · rw [if_pos (by rw [qlit, nI_ltI (by omega) (by decide)]; exact h1), if_neg (by unfold isL; simp; omega)]
    · rw [if_neg (by rw [qlit, nI_ltI (by omega) (by decide)]; exact h1)]
      by_cases h2 : 122 < b k
      · rw [if_pos (by rw [qlit, nI_ltI (by decide) (by omega)]; exact h2), if_neg (by unfold isL; simp; omega)]
      · rw [if_neg (by rw [qlit, nI_ltI (by decide) (by omega)]; exact h2), if_pos (by unfold isL; simp; omega)]
  · rw [if_neg h, if_pos (by decide), if_neg (fun h' => h h'.1)]
theorem re_run {Q : Nat → Bool} : ∀ d p e, p + d = e → e ≤ n → (∀ i, p ≤ i → i < e → Q (b i) = true) → (e < n → ¬ Q (b e) = true) → re Q b n p = e := by
  intro d
  induction d with
  | zero =>
    intro p e h1 h2 h3 h4
    obtain rfl : p = e := by omega
    by_cases c : p < n
    · exact re_no c (h4 c)
    · exact re_n (by omega)
  | succ d ih =>
    intro p e h1 h2 h3 h4
    rw [re_y (by omega) (h3 p (Nat.le_refl _) (by omega))]
    exact ih (p + 1) e (by omega) h2 (fun i h5 h6 => h3 i (by omega) h6) h4
theorem m_word (hT : MT b n S) (h4 : S.1 119 4 = nI a) (ha : a ≤ n) (h6 : S.1 119 6 = 0) {j : Nat} (hj : j < 5) : fX7_takes 119 (UInt32.ofNat j) (qH A S) = if kd b n (sk b n a) = wcode j then some (.inl (some (.int 1)), qH A (us S 119 4 (nI (en b n (sk b n a))))) else some (.inl (some (.int 0)), qH A (us S 119 4 (nI (sk b n a)))) := by
  have hn := hT.1
  have hb := hT.2.1
  obtain ⟨⟨w0, w1⟩, -, -, -, w2⟩ := wl_ok j hj
  have hp := sk_le (b := b) ha
  have hT1 : MT b n (us S 119 4 (nI (sk b n a))) := mt_us hT (by decide)
  have h41 : (us S 119 4 (nI (sk b n a))).1 119 4 = nI (sk b n a) := by rw [us_at, if_pos rfl]
  unfold fX7_takes
  rw [ob_119, q_cv, m_fine1 h6, q_cal, q_vi, if_neg (by decide), ob_119, q_cv, m_here hT h4 ha, q_cal, q_vi]
  have no48 : ∀ k, k < wlen j → fX7_takes_48 119 (UInt32.ofNat j) (nI k) (qH A (us S 119 4 (nI (sk b n a)))) = some (.inl (some (.int 0)), qH A (us S 119 4 (nI (sk b n a)))) := fun k hk => by
    unfold fX7_takes_48
    rw [z_sl hj, q_bs, if_pos (nI_lt hk (by omega)), z_br0]
  have key : ∀ d k K, k + d = wlen j → d < K → (∀ i, i < k → sk b n a + i < n ∧ b (sk b n a + i) = wch j i) → fX7_takes_16 K 119 (UInt32.ofNat j) (nI k) (qH A (us S 119 4 (nI (sk b n a)))) = if kd b n (sk b n a) = wcode j then some (.inl (some (.int 1)), qH A (us S 119 4 (nI (en b n (sk b n a))))) else some (.inl (some (.int 0)), qH A (us S 119 4 (nI (sk b n a)))) := by
    intro d
    induction d with
    | zero =>
      intro k K h1 h2 h3
      obtain ⟨K, rfl⟩ : ∃ k', K = k' + 1 := ⟨K - 1, by omega⟩
      obtain rfl : k = wlen j := by omega
      have hlast := h3 (wlen j - 1) (by omega)
      have hall : ∀ i, sk b n a ≤ i → i < sk b n a + wlen j → isL (b i) = true := fun i x1 x2 => by
        have := h3 (i - sk b n a) (by omega)
        rw [show sk b n a + (i - sk b n a) = i by omega] at this
        rw [this.2]
        exact (w2 _ (by omega)).2
      have hl0 := hall (sk b n a) (Nat.le_refl _) (by omega)
      rw [fX7_takes_16, z_sl hj, q_bs, if_pos (by rw [nI_leI (by omega) (by omega)]; exact Nat.le_refl _)]
      unfold fX7_takes_48
      rw [z_sl hj, q_bs, if_neg (by rw [nI_ltI (by omega) (by omega)]; omega), gi_119_4, q_bs, h41, nI_add, ob_119, q_cv, m_byteAt hT1 (by omega), q_cal, q_vi, m_small hb, q_cal, q_vi]
      by_cases cs : sk b n a + wlen j < n ∧ isL (b (sk b n a + wlen j)) = true
      · rw [if_pos cs, if_neg (by decide), z_br0, if_neg]
        intro hk
        obtain ⟨k1, k2, k3, k4⟩ := (kd_w hj).mp hk
        have hgt : sk b n a < en b n (sk b n a) := en_gt
        have he : en b n (sk b n a) = sk b n a + wlen j := by omega
        have hen : en b n (sk b n a) = re isL b n (sk b n a + 1) := by
          unfold en
          rw [if_neg (by rw [(dis _).2 k2]; decide), if_pos k2]
        have hnot := re_not (Q := isL) (b := b) (n := n) (p := sk b n a + 1) (by rw [← hen, he]; exact cs.1)
        rw [← hen, he] at hnot
        exact hnot cs.2
      · rw [if_neg cs, if_pos rfl, gi_119_4, q_bs, h41, nI_add, pi_119_4, q_bs, z_br1, usus]
        have hen : en b n (sk b n a) = sk b n a + wlen j := by
          unfold en
          rw [if_neg (by rw [(dis _).2 hl0]; decide), if_pos hl0]
          exact re_run (wlen j - 1) (sk b n a + 1) (sk b n a + wlen j) (by omega) (by omega) (fun i x1 x2 => hall i (by omega) x2) (fun h9 h8 => cs ⟨h9, h8⟩)
        have hk : kd b n (sk b n a) = wcode j := (kd_w hj).mpr ⟨by omega, hl0, by rw [hen]; omega, fun i hi => (h3 i hi).2⟩
        rw [if_pos hk, hen]
    | succ d ih =>
      intro k K h1 h2 h3
      obtain ⟨K, rfl⟩ : ∃ k', K = k' + 1 := ⟨K - 1, by omega⟩
      have hw : wch j k < 256 := by
        have := (w2 k (by omega)).2
        unfold isL at this
        simp at this
        omega
      rw [fX7_takes_16, z_sl hj, q_bs, if_neg (by rw [nI_leI (by omega) (by omega)]; omega), gi_119_4, q_bs, h41, nI_add, ob_119, q_cv, m_byteAt hT1 (by omega), q_cal, q_vi, z_sc hj (by omega), q_bs, nI_1]
      by_cases e : sk b n a + k < n ∧ b (sk b n a + k) = wch j k
      · rw [if_pos ((cb_eq hb hw).mpr e)]
        refine ih (k + 1) K (by omega) (by omega) (fun i hi => ?_)
        by_cases e9 : i = k
        · rw [e9]; exact e
        · exact h3 i (by omega)
      · rw [if_neg (fun h => e ((cb_eq hb hw).mp h)), no48 k (by omega), if_neg]
        intro hk
        obtain ⟨k1, k2, k3, k4⟩ := (kd_w hj).mp hk
        have hle := en_le (b := b) k1
        exact e ⟨by omega, k4 k (by omega)⟩
  exact key (wlen j) 0 FU (by omega) (by unfold FU; omega) (fun i hi => by omega)
end QTL
