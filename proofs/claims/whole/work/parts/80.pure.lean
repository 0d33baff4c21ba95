theorem pure_ok : Pure_ok := by
  sorry
