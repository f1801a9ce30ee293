/-! the law, all of it -/
def G0I : GS := ((0, 0, fun _ _ => 0), (0, fun _ => (0, 0, fun _ _ => 0)), (0, fun _ => 0), fun _ => 0, -1)
theorem ini_run (L : Nat) (xs : Nat → Int32) : ∃ A S, fL_law (L, xs) (0, 0, fun _ => none) = fL_law_23 (L, xs) FU 0 119 270 (nI (6 * 0)) (qH A S) ∧ CI G0I S ∧ MI G0I S ∧ A.1 = 271 ∧ A.2.1 = 27742 := by
  obtain ⟨F, f2, f3, f4, f5, f6, h0, g0, g1, g2, g3, g4, g5, g6, t1, t2⟩ := f_init
  obtain ⟨F6, e6, p6⟩ := x6_run F f2 f3 f4 f5 f6 h0 g0 g1 g2 g3 g4 g5 g6
  obtain ⟨F7, e7, p7, q7⟩ := x7_run F6 14814
  have hq2 : qF 0 = 2 := by decide
  let F9 : Nat → Option aE := fun a => if a = 270 then some (z_l 1 (fun _ => 0)) else F7 a
  have heq : znew (270, 14814 + 12927, F7) 1 (z_l 1 (fun _ => 0)) = qH (271, 27742, fun a => some (F9 a)) (s0I, r0I f2 f3 f4 f5 f6, fun _ => 0) := by
    refine Prod.ext rfl (Prod.ext rfl ?_)
    funext a
    show F9 a = (if a < 271 then some (emb0 a (s0I a) (r0I f2 f3 f4 f5 f6 a) (fun _ => 0)) else F9 a)
    by_cases h : a < 271
    · rw [if_pos h]
      show (if a = 270 then some (z_l 1 (fun _ => 0)) else F7 a) = _
      by_cases c : a = 270
      · rw [if_pos c, c]
        rfl
      · rw [if_neg c]
        by_cases c9 : a < 119
        · rw [p7 a c9, p6 a c9]
        · rw [q7 a (by omega) (by omega)]
          have er : r0I (fun _ => 0) (fun _ => 0) (fun _ => 0) (fun _ => 0) (fun _ => 0) a = r0I f2 f3 f4 f5 f6 a := by
            unfold r0I
            rw [if_neg (by omega), if_neg (by omega), if_neg (by omega), if_neg (by omega), if_neg (by omega), if_neg (show ¬ a = 2 by omega), if_neg (show ¬ a = 3 by omega), if_neg (show ¬ a = 4 by omega), if_neg (show ¬ a = 5 by omega), if_neg (show ¬ a = 6 by omega)]
          rw [er]
    · rw [if_neg h]
  refine ⟨(271, 27742, fun a => some (F9 a)), (s0I, r0I f2 f3 f4 f5 f6, fun _ => 0), ?_, ?_, ?_, rfl, rfl⟩
  · unfold fL_law
    rw [show znO (0, 0, fun _ => none) 6 = some (0, hF0) from rfl, q_b2, e6, q_cal, q_vn, show znO (119, 14814, F6) 7 = some (119, znew (119, 14814, F6) 28 (z_o 7 (zdf 7))) from rfl, q_b2, e7, q_cal, q_vn, show znJ (270, 14814 + 12927, F7) 1 = some (270, znew (270, 14814 + 12927, F7) 1 (z_l 1 (fun _ => 0))) from rfl, q_b2, heq]
    rfl
  · refine ⟨⟨fun a b ha hb => ?_, fun a ha => ?_, fun a b ha hb => ?_, fun a ha h0 => ?_, rfl, rfl, rfl, rfl⟩, ⟨by decide, rfl, rfl, rfl, Nat.zero_le _, fun i hi => absurd hi (Nat.not_lt_zero i)⟩, ⟨Nat.zero_le _, rfl, 0, by decide, rfl, fun k hk => absurd hk (Nat.not_lt_zero k)⟩, ⟨Nat.zero_le _, rfl, fun i hi => absurd hi (Nat.not_lt_zero i)⟩, fun j hj => rfl, rfl⟩
    · exact (t1 a b (by rw [← hq2]; exact ha) (by rw [← hq2]; exact hb)).1
    · exact (t2 a (by rw [← hq2]; exact ha)).1
    · exact (t1 a b (by rw [← hq2]; exact ha) (by rw [← hq2]; exact hb)).2
    · exact (t2 a (by rw [← hq2]; exact ha)).2 h0
  · refine ⟨Or.inr ⟨rfl, rfl⟩, ⟨by decide, rfl, rfl, rfl, Nat.zero_le _, fun i hi => absurd hi (Nat.not_lt_zero i)⟩, ⟨Nat.zero_le _, rfl, fun k hk => absurd hk (Nat.not_lt_zero k)⟩, ⟨Nat.zero_le _, rfl, fun i hi => absurd hi (Nat.not_lt_zero i)⟩, fun j hj => rfl, rfl⟩
theorem zpure (L : Nat) (hL : L ≤ 3072) (xs : Nat → Int32) : ∃ h' : AH, fL_law (L, xs) (0, 0, fun _ => none) = some (.inl (some (.int 1)), h') ∧ h'.1 ≤ 601024 ∧ h'.2.1 ≤ 7293034 := by
  obtain ⟨A, S, e1, hC, hM, a1, a2⟩ := ini_run L xs
  obtain ⟨A', S', b1, b2, b3⟩ := l_loop (xs := xs) hL (L / 6) 0 FU A S G0I (by omega) (by unfold FU; omega) (by omega) hC hM
  have h6 : L / 6 ≤ 512 := by omega
  refine ⟨qH A' S', e1.trans b1, ?_, ?_⟩
  · show A'.1 ≤ 601024
    omega
  · show A'.2.1 ≤ 7293034
    omega
