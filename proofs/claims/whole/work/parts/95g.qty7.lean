/-! the reference's reading: the field -/
theorem prQ0 : ∀ v, v < 65 → ∀ e, e < 10 → ((2 ≤ e ∧ v < e * e ∧ 2 ≤ v) ∧ ∀ i, i < e → 2 ≤ i → v % i ≠ 0) → prW v = true := by decide +kernel
theorem prQ (v : Nat) (hv : v < 65) (e : Nat) (he : e < 10) (h2 : 2 ≤ e) (h3 : v < e * e) (h4 : ∀ i, i < e → 2 ≤ i → v % i ≠ 0) (h5 : 2 ≤ v) : prW v = true := prQ0 v hv e he ⟨⟨h2, h3, h5⟩, h4⟩
theorem rsQ : ∀ v, v < 65 → ∀ m, m < 7 → (rsM v m ≤ 64 ↔ v ^ m ≤ 64) := by decide +kernel
/-- what the field's reading leaves alone -/
def frF (S S' : SS) : Prop := eqo (fun x => x = 119 ∨ x = 123 ∨ (133 < x ∧ x < 266)) S S' ∧ (∀ k, k ≠ 4 → k ≠ 6 → k ≠ 7 → k ≠ 22 → ¬ (13 ≤ k ∧ k ≤ 16) → S'.1 119 k = S.1 119 k) ∧ (S'.1 119 6 = 0 → S.1 119 6 = 0 ∧ S'.1 119 7 = S.1 119 7)
theorem frF.tr {S S' S'' : SS} (h : frF S S') (h' : frF S' S'') : frF S S'' := ⟨h.1.tr h'.1, fun k a1 a2 a3 a4 a5 => (h'.2.1 k a1 a2 a3 a4 a5).trans (h.2.1 k a1 a2 a3 a4 a5), fun h9 => ⟨(h.2.2 (h'.2.2 h9).1).1, (h'.2.2 h9).2.trans (h.2.2 (h'.2.2 h9).1).2⟩⟩
theorem frF.us {k : Nat} {S : SS} {v : Int32} (hk : k = 4 ∨ k = 22) : frF S (us S 119 k v) := ⟨eqo.us (Or.inl rfl), fun j a1 a2 a3 a4 a5 => by rw [us_at, if_neg (by omega)], fun h => by rw [us_at, if_neg (by omega)] at h; rw [us_at, if_neg (by omega)]; exact ⟨h, rfl⟩⟩
theorem frF.nu {S : SS} {p e : Nat} : frF S (nuS S p e) := (frF.us (by decide)).tr (frF.us (by decide))
theorem frF.wr {S : SS} {k p : Nat} (hk : ¬ nI k = 0) : frF S (wrS S k p) := by
  unfold wrS
  refine ⟨(eqo.us (Or.inl rfl)).tr (eqo.us (Or.inl rfl)), fun j a1 a2 a3 a4 a5 => by rw [us_at, if_neg a3, us_at, if_neg a2], fun h => ?_⟩
  rw [us_at, if_neg (by decide), us_at, if_pos rfl] at h
  exact absurd h hk
theorem la_same {S S' : SS} (h : laidM S) (h2 : S'.2 = S.2) (hs : ∀ k, 13 ≤ k ∧ k ≤ 16 → S'.1 119 k = S.1 119 k) : laidM S' := by
  rcases h with ⟨g, hg, hT⟩ | ⟨u1, u2⟩
  · exact Or.inl ⟨g, hg, tm_gen hg hT (fun b hb => by rw [h2]) hs⟩
  · exact Or.inr ⟨by rw [hs _ (by decide)]; exact u1, by rw [hs _ (by decide)]; exact u2⟩
section QTR
variable {A : AS} {S : SS} {b : Nat → Nat} {n a : Nat}
theorem m_prime {v : Nat} (hv : v < 65) : fX7_isPrime (nI v) (qH A S) = some (.inl (some (.int (if prW v = true then 1 else 0))), qH A S) := by
  have hw := prW_ok v hv
  have key : ∀ d e K, e + d = 9 → d < K → 2 ≤ e → (∀ i, i < e → 2 ≤ i → v % i ≠ 0) → fX7_isPrime_2 K (nI v) (nI e) (qH A S) = some (.inl (some (.int (if prW v = true then 1 else 0))), qH A S) := by
    intro d
    induction d with
    | zero =>
      intro e K h1 h2 h3 h4
      obtain ⟨K, rfl⟩ : ∃ k', K = k' + 1 := ⟨K - 1, by omega⟩
      obtain rfl : e = 9 := by omega
      rw [fX7_isPrime_2, pk_mul, if_pos (by rw [nI_ltI (by omega) (by decide)]; omega), z_br0, z_br1]
      by_cases c : v ≤ 1
      · rw [if_pos (by rw [qlit, nI_leI (by omega) (by decide)]; exact c), if_neg (fun h => by have := (hw.mp h).1; omega)]
      · rw [if_neg (by rw [qlit, nI_leI (by omega) (by decide)]; exact c), if_pos (prQ v hv 9 (by decide) h3 (by omega) h4 (by omega))]
    | succ d ih =>
      intro e K h1 h2 h3 h4
      obtain ⟨K, rfl⟩ : ∃ k', K = k' + 1 := ⟨K - 1, by omega⟩
      have hee : e * e ≤ 8 * 8 := Nat.mul_le_mul (by omega) (by omega)
      rw [fX7_isPrime_2, pk_mul]
      by_cases c0 : v < e * e
      · rw [if_pos (by rw [nI_ltI (by omega) (by omega)]; exact c0), z_br0, z_br1]
        by_cases c : v ≤ 1
        · rw [if_pos (by rw [qlit, nI_leI (by omega) (by decide)]; exact c), if_neg (fun h => by have := (hw.mp h).1; omega)]
        · rw [if_neg (by rw [qlit, nI_leI (by omega) (by decide)]; exact c), if_pos (prQ v hv e (by omega) h3 c0 h4 (by omega))]
      · have hl := Nat.mod_lt v (show 0 < e by omega)
        rw [if_neg (by rw [nI_ltI (by omega) (by omega)]; exact c0), if_neg (nI_ne0 (by omega) (by omega)), pk_rem (by omega) (by omega) (by omega), nI_1]
        by_cases c : v % e = 0
        · have hev : e < v := by
            have h9 : e * 2 ≤ e * e := Nat.mul_le_mul_left e h3
            omega
          rw [if_pos (by rw [c]; rfl), z_br0, if_neg (fun h => (hw.mp h).2 e hev h3 c)]
        · rw [if_neg (by rw [qlit, nI_eq (by omega) (by decide)]; exact c)]
          refine ih (e + 1) K (by omega) (by omega) (by omega) (fun i hi h5 => ?_)
          by_cases e9 : i = e
          · rw [e9]; exact c
          · exact h4 i (by omega) h5
  unfold fX7_isPrime
  exact key 7 2 FU (by omega) (by unfold FU; omega) (by decide) (fun i hi h5 => by omega)
theorem m_83b {k : Nat} (h : S.1 119 6 = nI k) (h0 : 0 < k) (h5 : k < 5) (x y : Int32) : fX7_readsField_83 119 x y (qH A S) = some (.inl none, qH A S) := by
  unfold fX7_readsField_83
  rw [ob_119, q_cv, m_must0 h h0 h5, q_cal, q_vn, ob_119, q_cv, m_fine0 h h0 h5, q_cal, q_vi, if_pos rfl]
theorem m_49b {k : Nat} (h : S.1 119 6 = nI k) (h0 : 0 < k) (h5 : k < 5) (x : Int32) : fX7_readsField_49 119 x (qH A S) = some (.inl none, qH A S) := by
  unfold fX7_readsField_49
  rw [ob_119, q_cv, m_number0 h h0 h5, q_cal, q_vi, ob_119, q_cv, m_fine0 h h0 h5, q_cal, q_vi, if_pos rfl, m_83b h h0 h5]
theorem m_18b {k : Nat} (h : S.1 119 6 = nI k) (h0 : 0 < k) (h5 : k < 5) : fX7_readsField_18 119 (qH A S) = some (.inl none, qH A S) := by
  unfold fX7_readsField_18
  rw [ob_119, q_cv, m_number0 h h0 h5, q_cal, q_vi, ob_119, q_cv, m_fine0 h h0 h5, q_cal, q_vi, if_pos rfl, m_49b h h0 h5]
/-- what the reading of the field comes to -/
def fmO (b : Nat → Nat) (n : Nat) (A : AS) (S : SS) (o : RR) (res : PR (Nat × Nat)) : Prop := ∃ S', o = some (.inl none, qH A S') ∧ frF S S' ∧ laidM S' ∧ (match res with
  | .inl e => (0 < e.1 ∧ e.1 < 5) ∧ S'.1 119 6 = nI e.1 ∧ S'.1 119 7 = nI e.2
  | .inr w => w.1 < nF ∧ TabM w.1 S' ∧ S'.1 119 6 = 0 ∧ (∃ a', S'.1 119 4 = nI a' ∧ a' ≤ n ∧ sk b n a' = w.2) ∧ S'.2.1 123 0 = nI (pF w.1) ∧ S'.2.1 123 1 = nI (mF w.1) ∧ ∀ j, 2 ≤ j → S'.2.1 123 j = S.2.1 123 j)
theorem fm_no {k p : Nat} {S2 : SS} {o : RR} (hX : frF S S2) (hl : laidM S2) (hk : 0 < k ∧ k < 5) (h6 : S2.1 119 6 = nI k) (h7 : S2.1 119 7 = nI p) (ho : o = some (.inl none, qH A S2)) : fmO b n A S o (.inl (k, p)) := ⟨S2, ho, hX, hl, hk, h6, h7⟩
theorem m_field (hT : MT b n S) (hl : laidM S) (h4 : S.1 119 4 = nI a) (ha : a ≤ n) (h6 : S.1 119 6 = 0) : fmO b n A S (fX7_readsField 119 (qH A S)) (pFld b n (sk b n a)) := by
  have hn := hT.1
  have hb := hT.2.1
  have hpn := sk_le (b := b) ha
  generalize hp : sk b n a = p at *
  have ht := m_word (A := A) (j := 3) hT h4 ha h6 (by decide)
  rw [hp] at ht
  unfold fX7_readsField pFld
  rw [ob_119, q_cv, ht]
  show fmO b n A S _ (if kd b n p = 2 then _ else _)
  by_cases k2 : kd b n p = 2
  · have hlt := kd_lt (show kd b n p ≠ 0 by omega)
    rw [if_pos (show kd b n p = wcode 3 from k2), if_pos k2, q_cal, q_vi, if_neg (by decide)]
    let S1 := us S 119 4 (nI (en b n p))
    have f1 : frF S S1 := frF.us (by decide)
    have hT1 : MT b n S1 := mt_us hT (by decide)
    have h41 : S1.1 119 4 = nI (en b n p) := by show (us _ _ _ _).1 119 4 = _; rw [us_at, if_pos rfl]
    have sc1 : ∀ k, k ≠ 4 → S1.1 119 k = S.1 119 k := fun k hk => by show (us _ _ _ _).1 119 k = _; rw [us_at, if_neg hk]
    have h61 : S1.1 119 6 = 0 := (sc1 6 (by decide)).trans h6
    have la1 : laidM S1 := la_same hl rfl (fun k hk => sc1 k (by omega))
    unfold fX7_readsField_18
    have hm := m_number (A := A) (lo := 2) (lim := 65) (l9 := 2) (h9 := 64) hT1 h41 (en_le hlt) h61 rfl (by decide) (by decide) (by decide)
    rw [show sk b n (en b n p) = nx b n p from rfl] at hm
    rw [ob_119, q_cv]
    rw [show fX7_number 119 2 64 (qH A (us S 119 4 (nI (en b n p)))) = _ from hm]
    show fmO b n A S _ (bnd (seeN b n (nx b n p) 65) _)
    -- a fault before the second number
    have badA : ∀ k pl S2, 0 < k → k < 5 → frF S S2 → laidM S2 → S2.1 119 6 = nI k → S2.1 119 7 = nI pl → fmO b n A S (zcv (zob (qH A S2) 119 7) (fX7_fine 119 (qH A S2)) fun v4 h5 => zvi v4 fun x6 => if x6 = 0 then fX7_readsField_49 119 0 h5 else zca (fX7_isPrime 0 h5) fun v7 h8 => zvi v7 fun x9 => if x9 = 0 then ((zgI h8 119 7 22).bind fun x10 => zcv (zob h8 119 7) (fX7_wrong 119 2 x10 h8) fun v11 h12 => zvn v11 <| fX7_readsField_49 119 0 h12) else fX7_readsField_49 119 0 h8) (.inl (k, pl)) := by
      intro k pl S2 q1 q2 q3 q4 q5 q6
      rw [ob_119, q_cv, m_fine0 q5 q1 q2, q_cal, q_vi, if_pos rfl, m_49b q5 q1 q2]
      exact fm_no q3 q4 ⟨q1, q2⟩ q5 q6 rfl
    unfold seeN
    by_cases kx : kd b n (nx b n p) = 1
    · rw [if_pos kx, if_pos kx]
      have hltx := (kd_1.mp kx).1
      obtain ⟨v1, v2, v3, v4⟩ := nu_v (S := S1) (p := nx b n p) (e := en b n (nx b n p))
      let S2 := nuS S1 (nx b n p) (en b n (nx b n p))
      have f2 : frF S S2 := f1.tr frF.nu
      have la2 : laidM S2 := la_same la1 v4 (fun k hk => v3 k (by omega) (by omega))
      have h62 : S2.1 119 6 = 0 := (v3 6 (by decide) (by decide)).trans h61
      have hT2 : MT b n S2 := mt_us (mt_us hT1 (by decide)) (by decide)
      by_cases c2 : 2 ≤ nv b n (nx b n p) ∧ nv b n (nx b n p) < 65
      · rw [if_pos c2, if_pos c2.2, q_cal, q_vi, ob_119, q_cv]
        rw [show fX7_fine 119 (qH A (nuS S1 (nx b n p) (en b n (nx b n p)))) = _ from m_fine1 h62, q_cal, q_vi, if_neg (by decide), m_prime c2.2, q_cal, q_vi]
        show fmO b n A S _ (if prW (nv b n (nx b n p)) = true then _ else _)
        generalize hv : nv b n (nx b n p) = v at *
        by_cases cp : prW v = true
        · rw [if_pos cp, if_pos cp, if_neg (by decide)]
          unfold fX7_readsField_49
          have hm2 := m_number (A := A) (lo := 1) (lim := 7) (l9 := 1) (h9 := 6) hT2 v1 (en_le hltx) h62 rfl (by decide) (by decide) (by decide)
          rw [show sk b n (en b n (nx b n p)) = nx b n (nx b n p) from rfl] at hm2
          rw [ob_119, q_cv]
          rw [show fX7_number 119 1 6 (qH A (nuS S1 (nx b n p) (en b n (nx b n p)))) = _ from hm2]
          have badB : ∀ k pl S3, 0 < k → k < 5 → frF S S3 → laidM S3 → S3.1 119 6 = nI k → S3.1 119 7 = nI pl → fmO b n A S (zcv (zob (qH A S3) 119 7) (fX7_fine 119 (qH A S3)) fun v4 h5 => zvi v4 fun x6 => if x6 = 0 then fX7_readsField_83 119 (nI v) 0 h5 else zca (fX7_raised (nI v) 0 h5) fun v7 h8 => zvi v7 fun x9 => if x9 ≤ 64 then fX7_readsField_83 119 (nI v) 0 h8 else (zgI h8 119 7 22).bind fun x10 => zcv (zob h8 119 7) (fX7_wrong 119 2 x10 h8) fun v11 h12 => zvn v11 <| fX7_readsField_83 119 (nI v) 0 h12) (.inl (k, pl)) := by
            intro k pl S3 q1 q2 q3 q4 q5 q6
            rw [ob_119, q_cv, m_fine0 q5 q1 q2, q_cal, q_vi, if_pos rfl, m_83b q5 q1 q2]
            exact fm_no q3 q4 ⟨q1, q2⟩ q5 q6 rfl
          by_cases ky : kd b n (nx b n (nx b n p)) = 1
          · rw [if_pos ky, if_pos ky]
            have hlty := (kd_1.mp ky).1
            obtain ⟨u1, u2, u3, u4⟩ := nu_v (S := S2) (p := nx b n (nx b n p)) (e := en b n (nx b n (nx b n p)))
            let S3 := nuS S2 (nx b n (nx b n p)) (en b n (nx b n (nx b n p)))
            have f3 : frF S S3 := f2.tr frF.nu
            have la3 : laidM S3 := la_same la2 u4 (fun k hk => u3 k (by omega) (by omega))
            have h63 : S3.1 119 6 = 0 := (u3 6 (by decide) (by decide)).trans h62
            have hT3 : MT b n S3 := mt_us (mt_us hT2 (by decide)) (by decide)
            generalize hm9 : nv b n (nx b n (nx b n p)) = m at *
            obtain ⟨w1, w2, w3, w4⟩ := wr_v (S := S3) (k := 2) (p := nx b n (nx b n p))
            have la4 : laidM (wrS S3 2 (nx b n (nx b n p))) := la_same la3 w4 (fun k hk => w3 k (by omega) (by omega))
            have f4 : frF S (wrS S3 2 (nx b n (nx b n p))) := f3.tr (frF.wr (by decide))
            -- no such field
            have nof : ¬ (1 ≤ m ∧ m < 7 ∧ v ^ m ≤ 64) → ∀ F : Nat → PR (Nat × Nat), (∀ m9, fOf v m9 = none → F m9 = .inl (2, nx b n (nx b n p))) → bnd (if m < 65 then (.inr m : PR Nat) else .inl (2, nx b n (nx b n p))) F = .inl (2, nx b n (nx b n p)) := by
              intro hno F hF
              by_cases c65 : m < 65
              · rw [if_pos c65]
                show F m = _
                refine hF m ?_
                have hso := fOf_ok v c2.2 cp m c65
                cases hfo : fOf v m with
                | none => rfl
                | some f9 =>
                  exfalso
                  rw [hfo] at hso
                  have h9 : 1 ≤ m ∧ v ^ m ≤ 64 := by
                    have : (decide (1 ≤ m) && decide (v ^ m ≤ 64)) = true := hso.symm
                    simpa using this
                  obtain ⟨g1, g2, g3⟩ := fOf_of hfo
                  have := (fF f9 g1).1
                  exact hno ⟨h9.1, by omega, h9.2⟩
              · rw [if_neg c65]
                rfl
            by_cases c3 : 1 ≤ m ∧ m < 7
            · rw [if_pos c3, q_cal, q_vi, ob_119, q_cv]
              rw [show fX7_fine 119 (qH A (nuS S2 (nx b n (nx b n p)) (en b n (nx b n (nx b n p))))) = _ from m_fine1 h63, q_cal, q_vi, if_neg (by decide), m_raised (by omega) (by omega), q_cal, q_vi]
              have hrl := rsM_le v m
              by_cases c4 : v ^ m ≤ 64
              · rw [if_pos (by rw [qlit, nI_leI (by omega) (by decide), rsQ v c2.2 m c3.2]; exact c4)]
                have hso := fOf_ok v c2.2 cp m (by omega)
                rw [if_pos (show m < 65 by omega)]
                show fmO b n A S _ (match fOf v m with | none => .inl (2, nx b n (nx b n p)) | some f => _)
                cases hfo : fOf v m with
                | none =>
                  exfalso
                  rw [hfo] at hso
                  have : (decide (1 ≤ m) && decide (v ^ m ≤ 64)) = true := by simp [c3.1, c4]
                  rw [this] at hso
                  exact absurd hso (by decide)
                | some f =>
                  obtain ⟨g1, g2, g3⟩ := fOf_of hfo
                  unfold fX7_readsField_83
                  have hmm := m_must (A := A) (c := 59) (c9 := 59) hT3 u1 (en_le hlty) h63 (by decide) rfl
                  rw [show sk b n (en b n (nx b n (nx b n p))) = nx b n (nx b n (nx b n p)) from rfl] at hmm
                  rw [ob_119, q_cv]
                  rw [show fX7_must 119 59 (qH A (nuS S2 (nx b n (nx b n p)) (en b n (nx b n (nx b n p))))) = _ from hmm]
                  show fmO b n A S _ (if kd b n (nx b n (nx b n (nx b n p))) = 59 then _ else _)
                  by_cases k59 : kd b n (nx b n (nx b n (nx b n p))) = 59
                  · have hlt3 := kd_lt (show kd b n (nx b n (nx b n (nx b n p))) ≠ 0 by omega)
                    let S4 := us S3 119 4 (nI (en b n (nx b n (nx b n (nx b n p)))))
                    have h64 : S4.1 119 6 = 0 := by show (us _ _ _ _).1 119 6 = _; rw [us_at, if_neg (by decide)]; exact h63
                    let S5 := ua (ua S4 123 0 (nI v)) 123 1 (nI m)
                    have f5 : frF S S5 := by
                      refine (f3.tr (frF.us (by decide))).tr ⟨(eqo.ua (by decide)).tr (eqo.ua (by decide)), fun _ _ _ _ _ _ => rfl, fun h => ⟨h, rfl⟩⟩
                    have la5 : laidM S5 := by
                      have er : ∀ r, r ≠ 123 → S5.2.1 r = S3.2.1 r := fun r hr => by
                        show (ua (ua S4 123 0 (nI v)) 123 1 (nI m)).2.1 r = _
                        rw [ua_ne hr, ua_ne hr]
                        rfl
                      have es : ∀ k, k ≠ 4 → S5.1 119 k = S3.1 119 k := fun k hk => by show (us S3 119 4 _).1 119 k = _; rw [us_at, if_neg hk]
                      rcases la3 with ⟨g9, hg9, hT9⟩ | ⟨y1, y2⟩
                      · exact Or.inl ⟨g9, hg9, tm_gen hg9 hT9 (fun r hr => er r (by omega)) (fun k hk => es k (by omega))⟩
                      · exact Or.inr ⟨by rw [es _ (by decide)]; exact y1, by rw [es _ (by decide)]; exact y2⟩
                    have e50 : S5.2.1 123 0 = nI (pF f) := by
                      show (ua (ua S4 123 0 (nI v)) 123 1 (nI m)).2.1 123 0 = _
                      rw [ua_at, if_neg (by decide), ua_at, if_pos rfl, g2]
                    have e51 : S5.2.1 123 1 = nI (mF f) := by
                      show (ua (ua S4 123 0 (nI v)) 123 1 (nI m)).2.1 123 1 = _
                      rw [ua_at, if_pos rfl, g3]
                    obtain ⟨S6, j1, j2, j3, j4⟩ := m_lays (A := A) (S := S5) (r := 123) g1 ql_123 (by decide) e50 e51 la5
                    rw [if_pos k59, if_pos k59, q_cal, q_vn, ob_119, q_cv]
                    rw [show fX7_fine 119 (qH A (us S3 119 4 (nI (en b n (nx b n (nx b n (nx b n p))))))) = _ from m_fine1 h64, q_cal, q_vi, if_neg (by decide), gr_119_10, q_bs, show (0 : Int32) = nI 0 from rfl, q_si ql_123 (by decide), q_bs, gr_119_10, q_bs, show (1 : Int32) = nI 1 from rfl, q_si ql_123 (by decide), q_bs, gr_119_10, q_bs, ob_119, q_cv]
                    rw [show fX7_lays 119 123 (qH A (ua (ua (us S3 119 4 (nI (en b n (nx b n (nx b n (nx b n p)))))) 123 0 (nI v)) 123 1 (nI m))) = _ from j1, q_cal, q_vn]
                    refine ⟨S6, rfl, f5.tr ⟨j3.mo (fun x hx => by omega), fun k a1 a2 a3 a4 a5 => j4 k a5, fun h => ?_⟩, Or.inl ⟨f, g1, j2⟩, g1, j2, (j4 6 (by decide)).trans h64, ⟨en b n (nx b n (nx b n (nx b n p))), (j4 4 (by decide)).trans (by show (us S3 119 4 (nI (en b n (nx b n (nx b n (nx b n p)))))).1 119 4 = _; rw [us_at, if_pos rfl]), en_le hlt3, rfl⟩, by rw [(j3.1 123 (by omega)).2]; exact e50, by rw [(j3.1 123 (by omega)).2]; exact e51, fun j hj => ?_⟩
                    · rw [j4 6 (by decide)] at h
                      exact ⟨h, j4 7 (by decide)⟩
                    · rw [(j3.1 123 (by omega)).2]
                      show (ua (ua S4 123 0 (nI v)) 123 1 (nI m)).2.1 123 j = _
                      rw [ua_at, if_neg (by omega), ua_at, if_neg (by omega)]
                      rfl
                  · obtain ⟨z1, z2, z3, z4⟩ := wr_v (S := us S3 119 4 (nI (nx b n (nx b n (nx b n p))))) (k := 1) (p := nx b n (nx b n (nx b n p)))
                    rw [if_neg k59, if_neg k59, q_cal, q_vn, ob_119, q_cv]
                    rw [show fX7_fine 119 (qH A (wrS (us S3 119 4 (nI (nx b n (nx b n (nx b n p))))) 1 (nx b n (nx b n (nx b n p))))) = _ from m_fine0 (k := 1) z1 (by decide) (by decide), q_cal, q_vi, if_pos rfl]
                    exact fm_no ((f3.tr (frF.us (by decide))).tr (frF.wr (by decide))) (la_same la3 z4 (fun k hk => (z3 k (by omega) (by omega)).trans (by rw [us_at, if_neg (by omega)]))) (by decide) z1 z2 rfl
              · rw [if_neg (by rw [qlit, nI_leI (by omega) (by decide), rsQ v c2.2 m c3.2]; exact c4), gi_119_22, q_bs]
                rw [show (nuS S2 (nx b n (nx b n p)) (en b n (nx b n (nx b n p)))).1 119 22 = _ from u2, ob_119, q_cv]
                rw [show fX7_wrong 119 2 (nI (nx b n (nx b n p))) (qH A (nuS S2 (nx b n (nx b n p)) (en b n (nx b n (nx b n p))))) = _ from m_wrong1 (k := 2) (k9 := 2) h63 rfl, q_cal, q_vn]
                rw [show fX7_readsField_83 119 (nI v) (nI m) (qH A (wrS S3 2 (nx b n (nx b n p)))) = _ from m_83b (k := 2) w1 (by decide) (by decide) _ _]
                rw [nof (fun h => c4 h.2.2) _ (fun m9 h9 => by rw [h9])]
                exact fm_no f4 la4 (by decide) w1 w2 rfl
            · rw [if_neg c3, q_cal, q_vi]
              rw [nof (fun h => c3 ⟨h.1, h.2.1⟩) _ (fun m9 h9 => by rw [h9])]
              exact badB 2 _ _ (by decide) (by decide) f4 la4 w1 w2
          · obtain ⟨w1, w2, w3, w4⟩ := wr_v (S := us S2 119 4 (nI (nx b n (nx b n p)))) (k := 1) (p := nx b n (nx b n p))
            rw [if_neg ky, if_neg ky, q_cal, q_vi]
            exact badB 1 _ _ (by decide) (by decide) ((f2.tr (frF.us (by decide))).tr (frF.wr (by decide))) (la_same la2 w4 (fun k hk => (w3 k (by omega) (by omega)).trans (by rw [us_at, if_neg (by omega)]))) w1 w2
        · obtain ⟨w1, w2, w3, w4⟩ := wr_v (S := S2) (k := 2) (p := nx b n p)
          rw [if_neg cp, if_neg cp, if_pos rfl, gi_119_22, q_bs]
          rw [show (nuS S1 (nx b n p) (en b n (nx b n p))).1 119 22 = _ from v2, ob_119, q_cv]
          rw [show fX7_wrong 119 2 (nI (nx b n p)) (qH A (nuS S1 (nx b n p) (en b n (nx b n p)))) = _ from m_wrong1 (k := 2) (k9 := 2) h62 rfl, q_cal, q_vn]
          rw [show fX7_readsField_49 119 (nI v) (qH A (wrS S2 2 (nx b n p))) = _ from m_49b (k := 2) w1 (by decide) (by decide) _]
          exact fm_no (f2.tr (frF.wr (by decide))) (la_same la2 w4 (fun k hk => w3 k (by omega) (by omega))) (by decide) w1 w2 rfl
      · obtain ⟨w1, w2, w3, w4⟩ := wr_v (S := S2) (k := 2) (p := nx b n p)
        rw [if_neg c2, q_cal, q_vi]
        have hsp : ∀ F : Nat → PR (Nat × Nat), (∀ v, ¬ prW v = true → F v = .inl (2, nx b n p)) → bnd (if nv b n (nx b n p) < 65 then (.inr (nv b n (nx b n p)) : PR Nat) else .inl (2, nx b n p)) F = .inl (2, nx b n p) := by
          intro F hF
          by_cases c65 : nv b n (nx b n p) < 65
          · rw [if_pos c65]
            show F _ = _
            exact hF _ (fun h => by have := ((prW_ok _ c65).mp h).1; exact c2 ⟨this, c65⟩)
          · rw [if_neg c65]
            rfl
        rw [hsp _ (fun v h9 => by rw [if_neg h9])]
        exact badA 2 _ _ (by decide) (by decide) (f2.tr (frF.wr (by decide))) (la_same la2 w4 (fun k hk => w3 k (by omega) (by omega))) w1 w2
    · obtain ⟨w1, w2, w3, w4⟩ := wr_v (S := us S1 119 4 (nI (nx b n p))) (k := 1) (p := nx b n p)
      rw [if_neg kx, if_neg kx, q_cal, q_vi]
      exact badA 1 _ _ (by decide) (by decide) ((f1.tr (frF.us (by decide))).tr (frF.wr (by decide))) (la_same la1 w4 (fun k hk => (w3 k (by omega) (by omega)).trans (by rw [us_at, if_neg (by omega)]))) w1 w2
  · have h41 : (us S 119 4 (nI p)).1 119 4 = nI p := by rw [us_at, if_pos rfl]
    have h61 : (us S 119 4 (nI p)).1 119 6 = 0 := by rw [us_at, if_neg (by decide)]; exact h6
    obtain ⟨w1, w2, w3, w4⟩ := wr_v (S := us S 119 4 (nI p)) (k := 1) (p := p)
    rw [if_neg (show ¬ kd b n p = wcode 3 from k2), if_neg k2, q_cal, q_vi, if_pos rfl, gi_119_4, q_bs, h41, ob_119, q_cv, m_wrong1 (k := 1) (k9 := 1) h61 rfl, q_cal, q_vn, m_18b (k := 1) w1 (by decide) (by decide)]
    exact fm_no ((frF.us (by decide)).tr (frF.wr (by decide))) (la_same hl w4 (fun k hk => (w3 k (by omega) (by omega)).trans (by rw [us_at, if_neg (by omega)]))) (by decide) w1 w2 rfl
end QTR
