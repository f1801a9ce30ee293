/-! the reference's reading: parts -/
def grw (A A' : AS) : Prop := A.1 ≤ A'.1 ∧ A'.2.1 + 64 * A.1 = A.2.1 + 64 * A'.1 ∧ ∀ x, x < A.1 → A'.2.2 x = A.2.2 x
theorem grw.rf {A : AS} : grw A A := ⟨Nat.le_refl _, rfl, fun _ _ => rfl⟩
theorem grw.tr {A A' A'' : AS} (h : grw A A') (h' : grw A' A'') : grw A A'' := ⟨Nat.le_trans h.1 h'.1, by have := h.2.1; have := h'.2.1; omega, fun x hx => (h'.2.2 x (Nat.lt_of_lt_of_le hx h.1)).trans (h.2.2 x hx)⟩
theorem grw.n {A : AS} : grw A (qN A) := ⟨Nat.le_succ _, by show A.2.1 + 64 + 64 * A.1 = A.2.1 + 64 * (A.1 + 1); omega, fun x hx => if_neg (Nat.ne_of_lt hx)⟩
def isR (A : AS) (r : Nat) : Prop := 271 ≤ r ∧ r < A.1 ∧ A.2.2 r = none
theorem isR.l {A : AS} {r : Nat} (h : isR A r) : qL A r 64 := ⟨by decide, Or.inr ⟨h.1, h.2.2, rfl⟩⟩
theorem isR.g {A A' : AS} {r : Nat} (h : isR A r) (hg : grw A A') : isR A' r := ⟨h.1, Nat.lt_of_lt_of_le h.2.1 hg.1, (hg.2.2 r h.2.1).trans h.2.2⟩
theorem isR.n {A : AS} (h : 271 ≤ A.1) : isR (qN A) A.1 := ⟨h, Nat.lt_succ_self _, if_pos rfl⟩
theorem frm.mo {N N' : Nat} {S S' : SS} (h : frm N' S S') (hn : N ≤ N') : frm N S S' := ⟨h.1.mo (fun x hx => by omega), h.2⟩
def mRes (b : Nat → Nat) (n f : Nat) (A A' : AS) (S' : SS) (a r : Nat) (res : PR (RW × Nat)) : Prop := match res with
  | .inl e => (0 < e.1 ∧ e.1 < 5) ∧ S'.1 119 6 = nI e.1 ∧ S'.1 119 7 = nI e.2 ∧ (∃ R, rowR f S' r R) ∧ 2 * A'.1 ≤ 2 * A.1 + (n - a) + 4
  | .inr w => S'.1 119 6 = 0 ∧ rowR f S' r w.1 ∧ ∃ a', S'.1 119 4 = nI a' ∧ a' ≤ n ∧ a < a' ∧ sk b n a' = w.2 ∧ 2 * A'.1 ≤ 2 * A.1 + (a' - a) + 1
def mOKr (b : Nat → Nat) (n f : Nat) (A : AS) (S : SS) (a : Nat) (o : RR) (res : PR (RW × Nat)) : Prop := ∃ A' S' r, o = some (.inl (some (.ref r)), qH A' S') ∧ grw A A' ∧ frm A.1 S S' ∧ S'.1 119 23 = S.1 119 23 ∧ A.1 ≤ r ∧ isR A' r ∧ mRes b n f A A' S' a r res
/-- a bracket: opened, read, closed -/
def seqB (Sf : Nat → AH → RR) (C : Nat → AH → RR) (h : AH) : RR := zcv (zob h 119 7) (fX7_opens 119 h) fun v19 h20 => zvn v19 <| zcv (zob h20 119 7) (Sf 119 h20) fun v21 h22 => zvr v21 fun x23 => zcv (zob h22 119 7) (fX7_closes 119 h22) fun v24 h25 => zvn v24 <| C x23 h25
def zeroS (S : SS) (N f : Nat) : SS := uA S N (fa_fill (fun _ => nI 0) (fun _ => 0) (qF f))
section QTN
variable {b : Nat → Nat} {n f c : Nat} {W : Nat → Nat → Nat} {Sf : Nat → AH → RR} {d : Nat}
theorem zero_row {S : SS} {N : Nat} (hf : f < nF) : rowR f (zeroS S N f) N (fun _ => 0) := fun x hx => by
  have hq := qz hf
  unfold zeroS
  rw [uA_at, fa_fill_in hx]
  exact ⟨rfl, by show 0 < qF f; omega⟩
theorem m_row0 {A : AS} {S : SS} (hf : f < nF) (hz : S.1 119 15 = nI (qF f)) (hA : 271 ≤ A.1) : fX7_row 119 0 (qH A S) = some (.inl (some (.ref A.1)), qH (qN A) (zeroS S A.1 f)) := m_row (g := fun _ => 0) hf hz hA (fun x hx => by rw [if_neg (by decide)]; rfl)
/-- what is known of the sums one deeper -/
def sumF (b : Nat → Nat) (n f c : Nat) (W : Nat → Nat → Nat) (Sf : Nat → AH → RR) (d : Nat) (brk : Nat → PR (RW × Nat)) : Prop := (d < 4 ∧ ∃ r, brk = pBr b n f c W (r + 1) ∧ ∀ A S a, 271 ≤ A.1 → MC b n f c W S → S.1 119 4 = nI a → a ≤ n → S.1 119 6 = 0 → S.1 119 23 = nI (d + 1) → mOKr b n f A S a (Sf 119 (qH A S)) (pS b n f c W (pBr b n f c W r) (sk b n a))) ∨ (d = 4 ∧ brk = pBr b n f c W 0)
def sumU (f : Nat) (Sf : Nat → AH → RR) : Prop := ∀ (A : AS) (S : SS) k, 271 ≤ A.1 → S.1 119 15 = nI (qF f) → S.1 119 6 = nI k → 0 < k → k < 5 → Sf 119 (qH A S) = some (.inl (some (.ref A.1)), qH (qN A) (zeroS S A.1 f))
theorem m_brk0 (hf : f < nF) (hU : sumU f Sf) {A : AS} {S : SS} {a k : Nat} (hA : 271 ≤ A.1) (hT : MT b n S) (hz : S.1 119 15 = nI (qF f)) (h4 : S.1 119 4 = nI a) (ha : a ≤ n) (h6 : S.1 119 6 = nI k) (h0 : 0 < k) (h5 : k < 5) (h23 : S.1 119 23 = nI d) :
    ∃ S', (∀ C, seqB Sf C (qH A S) = C A.1 (qH (qN A) S')) ∧ frm A.1 S S' ∧ S'.1 119 23 = nI d ∧ S'.1 119 6 = nI k ∧ S'.1 119 7 = S.1 119 7 ∧ rowR f S' A.1 (fun _ => 0) := by
  obtain ⟨S1, a1, a2, a3, a4, a5, a6⟩ := m_opens0 (A := A) hT h4 ha h6 h0 h5 h23 A.1
  have hz1 : S1.1 119 15 = nI (qF f) := by rw [a2.2.1 15 (by decide) (by decide) (by decide) (by decide) (by decide)]; exact hz
  have b1 := hU A S1 k hA hz1 a5 h0 h5
  have c1 := m_closes0 (A := qN A) (S := zeroS S1 A.1 f) (d := d) (k := k) a5 h0 h5 a4
  refine ⟨us (zeroS S1 A.1 f) 119 23 (nI d), fun C => ?_, (a2.tr (frm.uA (Nat.le_refl _)) (Nat.le_refl _)).tr (frm.us (by decide)) (Nat.le_refl _), by rw [us_at, if_pos rfl], by rw [us_at, if_neg (by decide)]; exact a5, by rw [us_at, if_neg (by decide)]; exact a6, zero_row hf⟩
  unfold seqB
  rw [ob_119, q_cv, a1, q_cal, q_vn, ob_119, q_cv, b1, q_cal, q_vr, ob_119, q_cv, c1, q_cal, q_vn]
theorem m_brk {brk : Nat → PR (RW × Nat)} (hd : d ≤ 4) (hF : sumF b n f c W Sf d brk) (hU : sumU f Sf) {A : AS} {S : SS} {a : Nat} (hA : 271 ≤ A.1) (hC : MC b n f c W S) (h4 : S.1 119 4 = nI a) (ha : a ≤ n) (h6 : S.1 119 6 = 0) (h23 : S.1 119 23 = nI d) :
    ∃ A' S' r, (∀ C, seqB Sf C (qH A S) = C r (qH A' S')) ∧ grw A A' ∧ frm A.1 S S' ∧ S'.1 119 23 = nI d ∧ A.1 ≤ r ∧ isR A' r ∧ (match brk (sk b n a) with
      | .inl e => (0 < e.1 ∧ e.1 < 5) ∧ S'.1 119 6 = nI e.1 ∧ S'.1 119 7 = nI e.2 ∧ (∃ R, rowR f S' r R) ∧ 2 * A'.1 ≤ 2 * A.1 + (n - a) + 4
      | .inr w => S'.1 119 6 = 0 ∧ rowR f S' r w.1 ∧ ∃ a', S'.1 119 4 = nI a' ∧ a' ≤ n ∧ a + 2 ≤ a' ∧ sk b n a' = w.2 ∧ 2 * A'.1 ≤ 2 * A.1 + (a' - a) - 1) := by
  have hf : f < nF := hC.2.2.2.1.1
  have hT := mt_of hC
  have hp := sk_ge (b := b) (n := n) (p := a)
  obtain ⟨S1, a1, a2, a3, a4, a5⟩ := m_opens (A := A) hT h4 ha h6 hd h23 A.1
  have hC1 := mc_frm hC a2 hA
  have hz1 : S1.1 119 15 = nI (qF f) := hC1.2.2.1.2.2.2.2.2.2.1
  -- behind a fault of the opening
  have bad : ∀ k, 0 < k → k < 5 → S1.1 119 6 = nI k → ∃ A' S' r, (∀ C, seqB Sf C (qH A S) = C r (qH A' S')) ∧ grw A A' ∧ frm A.1 S S' ∧ S'.1 119 23 = nI d ∧ A.1 ≤ r ∧ isR A' r ∧ S'.1 119 6 = nI k ∧ S'.1 119 7 = S1.1 119 7 ∧ (∃ R, rowR f S' r R) ∧ 2 * A'.1 ≤ 2 * A.1 + (n - a) + 4 := by
    intro k k0 k5 hk
    have b1 := hU A S1 k hA hz1 hk k0 k5
    have c1 := m_closes0 (A := qN A) (S := zeroS S1 A.1 f) (d := d) (k := k) hk k0 k5 a4
    refine ⟨qN A, us (zeroS S1 A.1 f) 119 23 (nI d), A.1, fun C => ?_, grw.n, (a2.tr (frm.uA (Nat.le_refl _)) (Nat.le_refl _)).tr (frm.us (by decide)) (Nat.le_refl _), by rw [us_at, if_pos rfl], Nat.le_refl _, isR.n hA, by rw [us_at, if_neg (by decide)]; exact hk, by rw [us_at, if_neg (by decide)]; rfl, ⟨_, zero_row hf⟩, by show 2 * (A.1 + 1) ≤ _; omega⟩
    unfold seqB
    rw [ob_119, q_cv, a1, q_cal, q_vn, ob_119, q_cv, b1, q_cal, q_vr, ob_119, q_cv, c1, q_cal, q_vn]
  rcases hF with ⟨hd4, r, rfl, hS⟩ | ⟨rfl, rfl⟩
  · rcases a5 with ⟨k1, k2, k3, k4⟩ | ⟨k1, k2, k3, k4⟩ | ⟨k1, k2, k3⟩
    · have hlt := kd_lt (show kd b n (sk b n a) ≠ 0 by omega)
      have hen := en_g (c := 40) (by decide) k1
      obtain ⟨A2, S2, r2, b1, b2, b3, b4, b5, b6, b7⟩ := hS A S1 _ hA hC1 k4 (en_le hlt) k3 a4
      have hC2 := mc_frm hC1 b3 hA
      have b4' : S2.1 119 23 = nI (d + 1) := b4.trans a4
      show ∃ A' S' r', _ ∧ _ ∧ _ ∧ _ ∧ _ ∧ _ ∧ (match pBr b n f c W (r + 1) (sk b n a) with | .inl e => _ | .inr w => _)
      rw [pBr, if_pos k1]
      have hsk : sk b n (en b n (sk b n a)) = nx b n (sk b n a) := rfl
      rw [hsk] at b7
      unfold mRes at b7
      cases hres : pS b n f c W (pBr b n f c W r) (nx b n (sk b n a)) with
      | inl e =>
        rw [hres] at b7
        obtain ⟨x1, x2, x3, x4, x5⟩ := b7
        have c1 := m_closes0 (A := A2) (S := S2) (d := d) x2 x1.1 x1.2 b4'
        refine ⟨A2, us S2 119 23 (nI d), r2, fun C => ?_, b2, (a2.tr b3 (Nat.le_refl _)).tr (frm.us (by decide)) (Nat.le_refl _), by rw [us_at, if_pos rfl], b5, b6, x1, by rw [us_at, if_neg (by decide)]; exact x2, by rw [us_at, if_neg (by decide)]; exact x3, x4, by omega⟩
        unfold seqB
        rw [ob_119, q_cv, a1, q_cal, q_vn, ob_119, q_cv, b1, q_cal, q_vr, ob_119, q_cv, c1, q_cal, q_vn]
      | inr w =>
        obtain ⟨R, p9⟩ := w
        rw [hres] at b7
        obtain ⟨x1, x2, a9, x3, x4, x5, x6, x7⟩ := b7
        have x6' : sk b n a9 = p9 := x6
        obtain ⟨S3, d1, d2, d3, d4, d5⟩ := m_closes (A := A2) (mt_of hC2) x3 x4 x1 b4' A.1
        rw [x6'] at d5
        have hrow : rowR f S3 r2 R := fun x hx => by rw [d3]; exact x2 x hx
        have hseq : ∀ C, seqB Sf C (qH A S) = C r2 (qH A2 S3) := fun C => by
          unfold seqB
          rw [ob_119, q_cv, a1, q_cal, q_vn, ob_119, q_cv, b1, q_cal, q_vr, ob_119, q_cv, d1, q_cal, q_vn]
        have hp9 := sk_ge (b := b) (n := n) (p := a9)
        rw [x6'] at hp9
        refine ⟨A2, S3, r2, hseq, b2, (a2.tr b3 (Nat.le_refl _)).tr d2 (Nat.le_refl _), d4, b5, b6, ?_⟩
        show (match (if kd b n p9 = 41 then (.inr (R, nx b n p9) : PR (RW × Nat)) else .inl (1, p9)) with | .inl e => _ | .inr w => _)
        rcases d5 with ⟨y1, y2, y3⟩ | ⟨y1, y2, y3⟩
        · rw [if_pos y1]
          have hlt9 := kd_lt (show kd b n p9 ≠ 0 by omega)
          have hg9 : p9 < en b n p9 := en_gt
          exact ⟨y2, hrow, en b n p9, y3, en_le hlt9, by omega, rfl, by omega⟩
        · rw [if_neg y1]
          exact ⟨(by decide : 0 < 1 ∧ 1 < 5), y2, y3, ⟨R, hrow⟩, by omega⟩
    · omega
    · obtain ⟨A', S', r', x1, x2, x3, x4, x5, x6, x7, x8, x9, x10⟩ := bad 1 (by decide) (by decide) k2
      refine ⟨A', S', r', x1, x2, x3, x4, x5, x6, ?_⟩
      rw [pBr, if_neg k1]
      exact ⟨(by decide : 0 < 1 ∧ 1 < 5), x7, x8.trans k3, x9, x10⟩
  · rcases a5 with ⟨k1, k2, k3, k4⟩ | ⟨k1, k2, k3, k4⟩ | ⟨k1, k2, k3⟩
    · omega
    · obtain ⟨A', S', r', x1, x2, x3, x4, x5, x6, x7, x8, x9, x10⟩ := bad 4 (by decide) (by decide) k3
      refine ⟨A', S', r', x1, x2, x3, x4, x5, x6, ?_⟩
      rw [pBr, if_pos k1]
      exact ⟨(by decide : 0 < 4 ∧ 4 < 5), x7, x8.trans k4, x9, x10⟩
    · obtain ⟨A', S', r', x1, x2, x3, x4, x5, x6, x7, x8, x9, x10⟩ := bad 1 (by decide) (by decide) k2
      refine ⟨A', S', r', x1, x2, x3, x4, x5, x6, ?_⟩
      rw [pBr, if_neg k1]
      exact ⟨(by decide : 0 < 1 ∧ 1 < 5), x7, x8.trans k3, x9, x10⟩
end QTN
