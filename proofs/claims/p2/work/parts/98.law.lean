theorem law_true {L : Nat} (hL : L ≤ 320) (xs : Nat → Int32) : fL_law L xs = some () := by
  sorry
