theorem zpure (L : Nat) (hL : L ≤ 3072) (xs : Nat → Int32) : ∃ h' : AH, fL_law (L, xs) (0, 0, fun _ => none) = some (.inl (some (.int 1)), h') ∧ h'.1 ≤ 601024 ∧ h'.2.1 ≤ 7293034 := by
  sorry
