/-! the law over the flat store -/
theorem law_one (g : GG) (hL : gl g ≤ 260) : f_L_law g S00 = some 1 := by
  sorry
