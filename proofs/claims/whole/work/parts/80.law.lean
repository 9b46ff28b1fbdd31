theorem law_holds (xs : Nat → Int32) (L : Nat) (hL : L ≤ 2048) (n : Nat) : fL_law xs L (n, fun _ => none) := by
  sorry
