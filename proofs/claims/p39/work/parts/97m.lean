/-! the same, the reference's side -/
theorem l3 : strL.getD 3 0 = 0 := by decide
theorem l4 : strL.getD 4 0 = 1 := by decide