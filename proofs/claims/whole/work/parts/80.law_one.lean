theorem law_one (xs : Nat → Int32) (L : Nat) (hL : L ≤ 3584) : f_L_law xs L S00 = some 1 := by
  sorry
