theorem ok_116 : stepok wl_law_116 := by
  sorry
theorem ok_172 : stepok wl_law_172 := by
  sorry
theorem ok_264 : stepok wl_law_264 := by
  sorry
theorem ok_348 : stepok wl_law_348 := by
  sorry
theorem ok_404 : stepok wl_law_404 := by
  sorry
theorem ok_522 : stepok wl_law_522 := by
  sorry
theorem ok_570 : stepok wl_law_570 := by
  sorry
theorem ok_618 : stepok wl_law_618 := by
  sorry
theorem ok_702 : stepok wl_law_702 := by
  sorry
theorem ok_772 : stepok wl_law_772 := by
  sorry
theorem ok_840 : stepok wl_law_840 := by
  sorry
