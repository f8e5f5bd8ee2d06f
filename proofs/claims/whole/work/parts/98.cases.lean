theorem ok_702 : stepok wl_law_702 := by
  sorry
