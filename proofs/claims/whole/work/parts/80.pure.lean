theorem law_pure (L : Nat) (hL : L ≤ 3584) (xs : Nat → Int32) (b : Nat) : ∃ Sz, fLw_law xs L (b, fun _ => none) = some (1, Sz) := by
  sorry
