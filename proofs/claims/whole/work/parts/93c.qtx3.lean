/-! the component's tape: stepping -/
def TX (b : Nat → Nat) (n : Nat) (S : SS) : Prop := ∀ i, pv b n i → S.2.1 91 i = nI (kd b n (ps b n i)) ∧ S.2.1 92 i = nI (ps b n i) ∧ (kd b n (ps b n i) = 1 → S.2.1 93 i = nI (min (nv b n (ps b n i)) 1000000))
def TP (b : Nat → Nat) (n : Nat) (S : SS) (p : Nat) : Prop := ∃ c, pv b n c ∧ ps b n c = p ∧ S.1 89 8 = nI c ∧ S.1 89 1 = nI (kd b n p) ∧ S.1 89 2 = nI p ∧ (kd b n p = 1 → S.1 89 3 = nI (min (nv b n p) 1000000))
section QTD
variable {A : AS} {S : SS} {b : Nat → Nat} {n p : Nat}
theorem kd_256 (hb : ∀ i, i < n → b i < 256) : kd b n p < 256 := by
  unfold kd
  split
  · decide
  · split
    · decide
    · split
      · unfold wk
        split
        · decide
        · split
          · decide
          · split
            · decide
            · split
              · decide
              · split <;> decide
      · split
        · exact hb p (by omega)
        · decide
theorem tp_le (h : TP b n S p) : p ≤ n := by
  obtain ⟨c, -, rfl, -⟩ := h
  exact ps_le c
theorem TX.eqo {S' : SS} {X : Nat → Prop} (h : TX b n S) (hX : eqo X S S') (hn : ∀ r, 91 ≤ r ∧ r ≤ 93 → ¬ X r) : TX b n S' := fun i hi => by
  rw [(hX.1 91 (hn 91 (by decide))).2, (hX.1 92 (hn 92 (by decide))).2, (hX.1 93 (hn 93 (by decide))).2]
  exact h i hi
theorem TP.eqo {S' : SS} {X : Nat → Prop} (h : TP b n S p) (hX : eqo X S S') (hn : ¬ X 89) : TP b n S' p := by
  unfold TP
  rw [(hX.1 89 hn).1]
  exact h
/-- to a piece that is there -/
theorem t_to (hn : n ≤ 300) (hT : TX b n S) {c : Nat} {v : Int32} (hc : pv b n c) (hv : v + 1 = nI c) (h8 : S.1 89 8 = v) (h1 : ¬ S.1 89 1 = 0) : ∃ S', fX5_step 89 (qH A S) = some (.inl none, qH A S') ∧ TP b n S' (ps b n c) ∧ eqo (fun x => x = 89) S S' := by
  obtain ⟨t1, t2, t3⟩ := hT c hc
  have hlt : c < 301 := by have := pv_ge c hc; have := ps_le (b := b) (n := n) c; omega
  refine ⟨us (us (us (us S 89 8 (nI c)) 89 1 (S.2.1 91 c)) 89 2 (S.2.1 92 c)) 89 3 (S.2.1 93 c), ?_, ⟨c, hc, rfl, ?_, ?_, ?_, fun h => ?_⟩, (((eqo.us (X := fun x => x = 89) rfl).tr (eqo.us (X := fun x => x = 89) rfl)).tr (eqo.us (X := fun x => x = 89) rfl)).tr (eqo.us (X := fun x => x = 89) rfl)⟩
  · have e1 : (us S 89 8 (nI c)).1 89 8 = nI c := by rw [us_at, if_pos rfl]
    have e2 : (us (us S 89 8 (nI c)) 89 1 (S.2.1 91 c)).1 89 8 = nI c := by rw [us_at, if_neg (by decide)]; exact e1
    have e3 : (us (us (us S 89 8 (nI c)) 89 1 (S.2.1 91 c)) 89 2 (S.2.1 92 c)).1 89 8 = nI c := by rw [us_at, if_neg (by decide)]; exact e2
    unfold fX5_step
    rw [gi_89_1, q_bs, if_neg h1, gi_89_8, q_bs, h8, hv, pi_89_8, q_bs, gr_89_5, q_bs, gi_89_8, q_bs, e1, q_ai ql_91 hlt, q_bs, us_r, pi_89_1, q_bs, gr_89_6, q_bs, gi_89_8, q_bs, e2, q_ai ql_92 hlt, q_bs, us_r, us_r, pi_89_2, q_bs, gr_89_7, q_bs, gi_89_8, q_bs, e3, q_ai ql_93 hlt, q_bs, us_r, us_r, us_r, pi_89_3, q_bs]
  · rw [us_at, if_neg (by decide), us_at, if_neg (by decide), us_at, if_neg (by decide), us_at, if_pos rfl]
  · rw [us_at, if_neg (by decide), us_at, if_neg (by decide), us_at, if_pos rfl]; exact t1
  · rw [us_at, if_neg (by decide), us_at, if_pos rfl]; exact t2
  · rw [us_at, if_pos rfl]; exact t3 h
theorem t_step (hn : n ≤ 300) (hb : ∀ i, i < n → b i < 256) (hT : TX b n S) (hp : TP b n S p) (hk : kd b n p ≠ 0) : ∃ S', fX5_step 89 (qH A S) = some (.inl none, qH A S') ∧ TP b n S' (nx b n p) ∧ eqo (fun x => x = 89) S S' := by
  obtain ⟨c, c1, rfl, c3, c4, c5, c6⟩ := hp
  have hlt := kd_lt hk
  have hc' : pv b n (c + 1) := fun j hj => by
    by_cases e : j = c
    · rw [e]; exact hlt
    · exact c1 j (by omega)
  have hk9 := kd_256 (n := n) (p := ps b n c) hb
  obtain ⟨S', a1, a2, a3⟩ := t_to (A := A) hn hT hc' (nI_1 (a := c)) c3 (by rw [c4]; exact nI_ne0 (by omega) (by omega))
  refine ⟨S', a1, ?_, a3⟩
  have : ps b n (c + 1) = nx b n (ps b n c) := by
    show (if ps b n c < n then nx b n (ps b n c) else n) = _
    rw [if_pos hlt]
  rw [this] at a2
  exact a2
theorem t_cut61 (hn : n ≤ 300) {m : Nat} (hm : pv b n m) (hps : ps b n m = n) (hT : TE b n m S) : ∃ S', fX5_cut_61 89 (nI n) (nI m) (qH A S) = some (.inl none, qH A S') ∧ TX b n S' ∧ TP b n S' (sk b n 0) ∧ eqo (fun x => x = 89 ∨ (91 ≤ x ∧ x ≤ 93)) S S' := by
  have hlt : m < 301 := by have := pv_ge m hm; omega
  let S1 := us (us (ua (ua S 91 m 0) 92 m (nI n)) 89 8 (-1)) 89 1 7
  have e91 : ∀ i, S1.2.1 91 i = if i = m then 0 else S.2.1 91 i := fun i => by
    show (ua (ua S 91 m 0) 92 m (nI n)).2.1 91 i = _
    rw [ua_ne (by decide), ua_at]
  have e92 : ∀ i, S1.2.1 92 i = if i = m then nI n else S.2.1 92 i := fun i => by
    show (ua (ua S 91 m 0) 92 m (nI n)).2.1 92 i = _
    rw [ua_at, ua_ne (by decide)]
  have hTX : TX b n S1 := by
    intro i hi
    by_cases e : i = m
    · subst e
      rw [e91, e92, if_pos rfl, if_pos rfl, hps, kd_0.mpr (Nat.le_refl _)]
      exact ⟨rfl, rfl, fun h => absurd h (by decide)⟩
    · have him : i < m := by
        by_cases h9 : i < m
        · exact h9
        · have := hi m (by omega)
          omega
      rw [e91, e92, if_neg e, if_neg e]
      exact hT i him
  have e0 : eqo (fun x => x = 89 ∨ (91 ≤ x ∧ x ≤ 93)) S S1 := ((eqo.ua (by decide)).tr (eqo.ua (by decide))).tr ((eqo.us (by decide)).tr (eqo.us (by decide)))
  obtain ⟨S', a1, a2, a3⟩ := t_to (A := A) (S := S1) (c := 0) (v := -1) hn hTX (fun j hj => by omega) (by decide) (by show (us _ _ _ _).1 89 8 = _; rw [us_at, if_neg (by decide), us_at, if_pos rfl]) (by show ¬ (us _ _ _ _).1 89 1 = _; rw [us_at, if_pos rfl]; decide)
  refine ⟨S', ?_, hTX.eqo a3 (fun r hr (h : r = 89) => by omega), a2, e0.tr (a3.mo (fun r hr => Or.inl hr))⟩
  unfold fX5_cut_61
  rw [gr_89_5, q_bs, q_si ql_91 hlt, q_bs, gr_89_6, q_bs, q_si ql_92 hlt, q_bs, pi_89_8, q_bs, pi_89_1, q_bs, ob_89, q_cv]
  rw [show fX5_step 89 (qH A (us (us (ua (ua S 91 m 0) 92 m (nI n)) 89 8 (-1)) 89 1 7)) = _ from a1, q_cal, q_vn]
theorem t_cut7 (hn : n ≤ 300) : ∀ d s m i K S, s + d = n → d < K → i ≤ s → pv b n m → sk b n s = ps b n m → TE b n m S → bytesR b n 90 S →
    ∃ S', fX5_cut_7 K 89 (nI n) (nI m) (nI s) (nI i) (qH A S) = some (.inl none, qH A S') ∧ TX b n S' ∧ TP b n S' (sk b n 0) ∧ eqo (fun x => x = 89 ∨ (91 ≤ x ∧ x ≤ 93)) S S' := by
  intro d
  induction d using Nat.strongRecOn with
  | ind d ih =>
    intro s m i K S h1 h2 h3 hm hs hT hb
    obtain ⟨K, rfl⟩ : ∃ k', K = k' + 1 := ⟨K - 1, by omega⟩
    by_cases c0 : d = 0
    · have hps : ps b n m = n := by rw [← hs, sk_n (by omega)]; omega
      obtain ⟨S', a1, a2, a3, a4⟩ := t_cut61 (A := A) hn hm hps hT
      refine ⟨S', ?_, a2, a3, a4⟩
      rw [fX5_cut_7]
      by_cases c1 : 300 ≤ i
      · rw [if_pos (by rw [qlit, nI_leI (by decide) (by omega)]; exact c1)]
        exact a1
      · rw [if_neg (by rw [qlit, nI_leI (by decide) (by omega)]; exact c1), if_pos (by rw [nI_leI (by omega) (by omega)]; omega)]
        exact a1
    · obtain ⟨b1, b2⟩ := hb s (by omega)
      have base : fX5_cut_7 (K + 1) 89 (nI n) (nI m) (nI s) (nI i) (qH A S) = if b s = 32 then fX5_cut_7 K 89 (nI n) (nI m) (nI (s + 1)) (nI (i + 1)) (qH A S) else zcv (zob (qH A (ua S 92 m (nI s))) 89 5) (fX5_cutOne 89 (nI m) (nI s) (nI n) (qH A (ua S 92 m (nI s)))) fun v5 h6 => zvi v5 fun x7 => fX5_cut_7 K 89 (nI n) (nI (m + 1)) x7 (nI (i + 1)) h6 := by
        have hlt : m < 301 := by have := pv_ge m hm; have := ps_le (b := b) (n := n) m; omega
        rw [fX5_cut_7, if_neg (by rw [qlit, nI_leI (by decide) (by omega)]; omega), if_neg (by rw [nI_leI (by omega) (by omega)]; omega), gr_89_4, q_bs, q_ai ql_90 (by omega), q_bs, b1, gr_89_6, q_bs, q_si ql_92 hlt, q_bs, nI_1, nI_1, nI_1]
        by_cases e : b s = 32
        · rw [if_pos (by rw [e]; rfl), if_pos e]
        · rw [if_neg (by rw [qlit, nI_eq (by omega) (by decide)]; exact e), if_neg e]
      rw [base]
      by_cases e : b s = 32
      · rw [if_pos e]
        exact ih (d - 1) (by omega) (s + 1) m (i + 1) K S (by omega) (by omega) (by omega) hm (by rw [← hs, sk_sp (by omega) e]) hT hb
      · rw [if_neg e]
        have hps : ps b n m = s := by rw [← hs, sk_ns (by omega) e]
        have hlt : m < 301 := by have := pv_ge m hm; omega
        have hb1 : bytesR b n 90 (ua S 92 m (nI s)) := fun j hj => by rw [ua_ne (by decide)]; exact hb j hj
        obtain ⟨S1, a1, a2, a3, a4, a5⟩ := t_one (A := A) hn hb1 hlt (show s < n by omega)
        have hgt : s < en b n s := en_gt
        have hle := en_le (b := b) (show s < n by omega)
        have hm1 : pv b n (m + 1) := fun j hj => by
          by_cases e9 : j = m
          · rw [e9, hps]; omega
          · exact hm j (by omega)
        have hT1 : TE b n (m + 1) S1 := by
          intro j hj
          have e92 : S1.2.1 92 = (ua S 92 m (nI s)).2.1 92 := (a2.1 92 (by decide)).2
          by_cases e9 : j = m
          · subst e9
            rw [hps, e92, ua_at, if_pos rfl]
            exact ⟨a4, rfl, a5⟩
          · rw [e92, ua_at, if_neg e9, (a3 j e9).1, (a3 j e9).2, ua_ne (by decide), ua_ne (by decide)]
            exact hT j (by omega)
        have hs1 : sk b n (en b n s) = ps b n (m + 1) := by
          show _ = (if ps b n m < n then nx b n (ps b n m) else n)
          rw [hps, if_pos (by omega)]
          rfl
        obtain ⟨S2, c1, c2, c3, c4⟩ := ih (n - en b n s) (by omega) (en b n s) (m + 1) (i + 1) K S1 (by omega) (by omega) (by omega) hm1 hs1 hT1 (fun j hj => by rw [(a2.1 90 (by decide)).2]; exact hb1 j hj)
        refine ⟨S2, ?_, c2, c3, ((eqo.ua (by decide)).tr (a2.mo (fun r (hr : r = 91 ∨ r = 93) => by omega))).tr c4⟩
        rw [ob_89, q_cv, a1, q_cal, q_vi]
        exact c1
theorem t_cut (hn : n ≤ 300) (hb : bytesR b n 90 S) : ∃ S', fX5_cut 89 (nI n) (qH A S) = some (.inl none, qH A S') ∧ TX b n S' ∧ TP b n S' (sk b n 0) ∧ eqo (fun x => x = 89 ∨ (91 ≤ x ∧ x ≤ 93)) S S' := by
  unfold fX5_cut
  exact t_cut7 (A := A) hn n 0 0 0 FU S (by omega) (by unfold FU; omega) (Nat.le_refl _) (fun j hj => by omega) rfl (fun j hj => by omega) hb
end QTD
