/-! by program: what the class's functions give -/
set_option maxRecDepth 4000 in
theorem ok_X6_needWithin (i2 : Int32) (i3 : Int32) (i4 : Int32)  : Ok (fX6_needWithin i2 i3 i4) (Sx ["java/lang/IllegalArgumentException"] (i3.toInt ≤ i2.toInt ∧ i2.toInt ≤ i4.toInt) (fun z => i3.toInt ≤ i2.toInt ∧ i2.toInt ≤ i4.toInt)) := by
  unfold fX6_needWithin
  refine Ok_jn (fun k13 wk13 => ?_)
  refine Ok_if ?_ ?_
  · intro h
    have c284 : i2.toInt < i3.toInt := i32lt h
    rw [wk13]
    show Ok (some (Sum.inl "java/lang/IllegalArgumentException")) _
    exact Ok_some ⟨by simp, by intro g; omega⟩
  · intro h
    have c285 : i3.toInt ≤ i2.toInt := i32nlt h
    refine Ok_if ?_ ?_
    · intro h
      have c286 : i2.toInt ≤ i4.toInt := i32le h
      refine Ok_some ?_
      simp only [Sx]
      try simp only [tl0, tl1, tl2, tl3, tl4, tl5, tl6, tl8, tl9, tl10, tl50, tl81, tl100, tl1000, tl9999, tlm1, tlm9, tlm50, tl2147483647]
      first | trivial | omega | (repeat' first | assumption | omega | apply And.intro)
    · intro h
      have c287 : i4.toInt < i2.toInt := i32nle h
      rw [wk13]
      show Ok (some (Sum.inl "java/lang/IllegalArgumentException")) _
      exact Ok_some ⟨by simp, by intro g; omega⟩
set_option maxRecDepth 4000 in
theorem ok_X6_needPlace (i11 : Int32) (i2 : Int32) (h0 : 2 ≤ i11.toInt ∧ i11.toInt ≤ 9) : Ok (fX6_needPlace i11 i2) (Sx ["java/lang/IndexOutOfBoundsException"] (0 ≤ i2.toInt ∧ i2.toInt < i11.toInt) (fun z => 0 ≤ i2.toInt ∧ i2.toInt < i11.toInt)) := by
  unfold fX6_needPlace
  refine Ok_jn (fun k16 wk16 => ?_)
  refine Ok_if ?_ ?_
  · intro h
    have c289 : i2.toInt < 0 := i32lt h
    rw [wk16]
    show Ok (some (Sum.inl "java/lang/IndexOutOfBoundsException")) _
    exact Ok_some ⟨by simp, by intro g; omega⟩
  · intro h
    have c290 : 0 ≤ i2.toInt := i32nlt h
    refine Ok_if ?_ ?_
    · intro h
      have c291 : i2.toInt < i11.toInt := i32lt h
      refine Ok_some ?_
      simp only [Sx]
      try simp only [tl0, tl1, tl2, tl3, tl4, tl5, tl6, tl8, tl9, tl10, tl50, tl81, tl100, tl1000, tl9999, tlm1, tlm9, tlm50, tl2147483647]
      first | trivial | omega | (repeat' first | assumption | omega | apply And.intro)
    · intro h
      have c292 : i11.toInt ≤ i2.toInt := i32nlt h
      rw [wk16]
      show Ok (some (Sum.inl "java/lang/IndexOutOfBoundsException")) _
      exact Ok_some ⟨by simp, by intro g; omega⟩
set_option maxRecDepth 4000 in
theorem ok_X6_needUnlike (i2 : Int32) (i3 : Int32)  : Ok (fX6_needUnlike i2 i3) (Sx ["java/lang/IllegalArgumentException"] (False) (fun z => True)) := by
  unfold fX6_needUnlike
  refine Ok_if ?_ ?_
  · intro h
    have c293 : i2.toInt = i3.toInt := i32eq h
    exact Ok_some ⟨by simp, by exact id⟩
  · intro h
    have c294 : i2.toInt ≠ i3.toInt := i32ne h
    exact Ok_some trivial
set_option maxRecDepth 4000 in
theorem ok_X6_needPair (i12 : Int32) (i2 : Int32) (i3 : Int32) (h0 : 2 ≤ i12.toInt ∧ i12.toInt ≤ 9) : Ok (fX6_needPair i12 i2 i3) (Sx ["java/lang/IndexOutOfBoundsException", "java/lang/IllegalArgumentException"] (False) (fun z => True)) := by
  unfold fX6_needPair
  refine Ok_xb (ok_X6_needPlace i12 i2 (by first | omega | assumption | (try simp only [tl0, tl1, tl2, tl3, tl4, tl5, tl6, tl8, tl9, tl10, tl50, tl81, tl100, tl1000, tl9999, tlm1, tlm9, tlm50, tl2147483647]; omega))) (fun e he hn => ⟨(by simp only [List.mem_cons, List.not_mem_nil, or_false] at he ⊢; first | exact he | exact Or.inl he | exact Or.inr he | (rcases he with he | he <;> simp [he])), id⟩) (fun z17 hz17 => ?_)
  try dsimp only at hz17
  try simp only [tl0, tl1, tl2, tl3, tl4, tl5, tl6, tl8, tl9, tl10, tl50, tl81, tl100, tl1000, tl9999, tlm1, tlm9, tlm50, tl2147483647] at hz17
  refine Ok_xb (ok_X6_needPlace i12 i3 (by first | omega | assumption | (try simp only [tl0, tl1, tl2, tl3, tl4, tl5, tl6, tl8, tl9, tl10, tl50, tl81, tl100, tl1000, tl9999, tlm1, tlm9, tlm50, tl2147483647]; omega))) (fun e he hn => ⟨(by simp only [List.mem_cons, List.not_mem_nil, or_false] at he ⊢; first | exact he | exact Or.inl he | exact Or.inr he | (rcases he with he | he <;> simp [he])), id⟩) (fun z18 hz18 => ?_)
  try dsimp only at hz18
  try simp only [tl0, tl1, tl2, tl3, tl4, tl5, tl6, tl8, tl9, tl10, tl50, tl81, tl100, tl1000, tl9999, tlm1, tlm9, tlm50, tl2147483647] at hz18
  refine Ok_xb (ok_X6_needUnlike i2 i3) (fun e he hn => ⟨(by simp only [List.mem_cons, List.not_mem_nil, or_false] at he ⊢; first | exact he | exact Or.inl he | exact Or.inr he | (rcases he with he | he <;> simp [he])), id⟩) (fun z19 hz19 => ?_)
  exact Ok_some trivial
set_option maxRecDepth 4000 in
theorem ok_X6_told (i11 : Int32) (i12 : Int32) (i13 : Int32) (f17 : Nat → Int32) (i2 : Int32) (h0 : 2 ≤ i11.toInt ∧ i11.toInt ≤ 9) : Ok (fX6_told i11 i12 i13 f17 i2) (Sx ["java/lang/IllegalArgumentException"] (0 ≤ i2.toInt ∧ i2.toInt ≤ 4) (fun z => True)) := by
  unfold fX6_told
  refine Ok_xb (ok_X6_needWithin i2 (0 : Int32) (4 : Int32)) (fun e he hn => ⟨(by simp only [List.mem_cons, List.not_mem_nil, or_false] at he ⊢; first | exact he | exact Or.inl he | exact Or.inr he | (rcases he with he | he <;> simp [he])), by intro g; exact hn (by first | omega | assumption | (try simp only [tl0, tl1, tl2, tl3, tl4, tl5, tl6, tl8, tl9, tl10, tl50, tl81, tl100, tl1000, tl9999, tlm1, tlm9, tlm50, tl2147483647]; omega))⟩) (fun z18 hz18 => ?_)
  try dsimp only at hz18
  try simp only [tl0, tl1, tl2, tl3, tl4, tl5, tl6, tl8, tl9, tl10, tl50, tl81, tl100, tl1000, tl9999, tlm1, tlm9, tlm50, tl2147483647] at hz18
  refine Ok_if ?_ ?_
  · intro h
    have c344 : i2.toInt = 0 := i32eq h
    exact Ok_some trivial
  · intro h
    have c345 : i2.toInt ≠ 0 := i32ne h
    refine Ok_if ?_ ?_
    · intro h
      have c346 : i2.toInt = 1 := i32eq h
      exact Ok_some trivial
    · intro h
      have c347 : i2.toInt ≠ 1 := i32ne h
      refine Ok_if ?_ ?_
      · intro h
        have c348 : i2.toInt = 2 := i32eq h
        exact Ok_some trivial
      · intro h
        have c349 : i2.toInt ≠ 2 := i32ne h
        refine Ok_if ?_ ?_
        · intro h
          have c350 : i2.toInt = 3 := i32eq h
          refine Ok_bind (ok_X1_countAboveZero f17 i11 (by first | omega | assumption | (try simp only [tl0, tl1, tl2, tl3, tl4, tl5, tl6, tl8, tl9, tl10, tl50, tl81, tl100, tl1000, tl9999, tlm1, tlm9, tlm50, tl2147483647]; omega))) (fun z19 hz19 => ?_)
          exact Ok_some trivial
        · intro h
          have c351 : i2.toInt ≠ 3 := i32ne h
          refine Ok_bind (ok_X2_roomInAll i11 f17 (by first | omega | assumption | (try simp only [tl0, tl1, tl2, tl3, tl4, tl5, tl6, tl8, tl9, tl10, tl50, tl81, tl100, tl1000, tl9999, tlm1, tlm9, tlm50, tl2147483647]; omega))) (fun z20 hz20 => ?_)
          exact Ok_some trivial
set_option maxRecDepth 4000 in
theorem ok_X6_pair (i13 : Int32) (f19 : Nat → Int32) (f21 : Nat → Int32) (i2 : Int32) (i3 : Int32) (i4 : Int32) (h0 : 2 ≤ i13.toInt ∧ i13.toInt ≤ 9) : Ok (fX6_pair i13 f19 f21 i2 i3 i4) (Sx ["java/lang/IndexOutOfBoundsException", "java/lang/IllegalArgumentException"] (((0 ≤ i2.toInt ∧ i2.toInt < i13.toInt) ∧ 0 ≤ i3.toInt ∧ i3.toInt < i13.toInt) ∧ 0 ≤ i4.toInt ∧ i4.toInt ≤ 2) (fun z => True)) := by
  unfold fX6_pair
  refine Ok_xb (ok_X6_needPlace i13 i2 (by first | omega | assumption | (try simp only [tl0, tl1, tl2, tl3, tl4, tl5, tl6, tl8, tl9, tl10, tl50, tl81, tl100, tl1000, tl9999, tlm1, tlm9, tlm50, tl2147483647]; omega))) (fun e he hn => ⟨(by simp only [List.mem_cons, List.not_mem_nil, or_false] at he ⊢; first | exact he | exact Or.inl he | exact Or.inr he | (rcases he with he | he <;> simp [he])), by intro g; exact hn (by first | omega | assumption | (try simp only [tl0, tl1, tl2, tl3, tl4, tl5, tl6, tl8, tl9, tl10, tl50, tl81, tl100, tl1000, tl9999, tlm1, tlm9, tlm50, tl2147483647]; omega))⟩) (fun z22 hz22 => ?_)
  try dsimp only at hz22
  try simp only [tl0, tl1, tl2, tl3, tl4, tl5, tl6, tl8, tl9, tl10, tl50, tl81, tl100, tl1000, tl9999, tlm1, tlm9, tlm50, tl2147483647] at hz22
  refine Ok_xb (ok_X6_needPlace i13 i3 (by first | omega | assumption | (try simp only [tl0, tl1, tl2, tl3, tl4, tl5, tl6, tl8, tl9, tl10, tl50, tl81, tl100, tl1000, tl9999, tlm1, tlm9, tlm50, tl2147483647]; omega))) (fun e he hn => ⟨(by simp only [List.mem_cons, List.not_mem_nil, or_false] at he ⊢; first | exact he | exact Or.inl he | exact Or.inr he | (rcases he with he | he <;> simp [he])), by intro g; exact hn (by first | omega | assumption | (try simp only [tl0, tl1, tl2, tl3, tl4, tl5, tl6, tl8, tl9, tl10, tl50, tl81, tl100, tl1000, tl9999, tlm1, tlm9, tlm50, tl2147483647]; omega))⟩) (fun z23 hz23 => ?_)
  try dsimp only at hz23
  try simp only [tl0, tl1, tl2, tl3, tl4, tl5, tl6, tl8, tl9, tl10, tl50, tl81, tl100, tl1000, tl9999, tlm1, tlm9, tlm50, tl2147483647] at hz23
  refine Ok_xb (ok_X6_needWithin i4 (0 : Int32) (2 : Int32)) (fun e he hn => ⟨(by simp only [List.mem_cons, List.not_mem_nil, or_false] at he ⊢; first | exact he | exact Or.inl he | exact Or.inr he | (rcases he with he | he <;> simp [he])), by intro g; exact hn (by first | omega | assumption | (try simp only [tl0, tl1, tl2, tl3, tl4, tl5, tl6, tl8, tl9, tl10, tl50, tl81, tl100, tl1000, tl9999, tlm1, tlm9, tlm50, tl2147483647]; omega))⟩) (fun z24 hz24 => ?_)
  try dsimp only at hz24
  try simp only [tl0, tl1, tl2, tl3, tl4, tl5, tl6, tl8, tl9, tl10, tl50, tl81, tl100, tl1000, tl9999, tlm1, tlm9, tlm50, tl2147483647] at hz24
  refine Ok_if ?_ ?_
  · intro h
    have c352 : i2.toInt = i3.toInt := i32eq h
    exact Ok_some trivial
  · intro h
    have c353 : i2.toInt ≠ i3.toInt := i32ne h
    refine Ok_if ?_ ?_
    · intro h
      have c354 : i4.toInt = 0 := i32eq h
      refine Ok_bind (ok_X1_at f19 i2 i3) (fun z25 hz25 => ?_)
      exact Ok_some trivial
    · intro h
      have c355 : i4.toInt ≠ 0 := i32ne h
      refine Ok_if ?_ ?_
      · intro h
        have c356 : i4.toInt = 1 := i32eq h
        refine Ok_bind (ok_X1_at f21 i2 i3) (fun z26 hz26 => ?_)
        exact Ok_some trivial
      · intro h
        have c357 : i4.toInt ≠ 1 := i32ne h
        refine Ok_bind (ok_X2_leftOf f19 f21 i2 i3) (fun z27 hz27 => ?_)
        exact Ok_some trivial
set_option maxRecDepth 4000 in
theorem ok_X6_ofPlace (i12 : Int32) (f18 : Nat → Int32) (f20 : Nat → Int32) (i2 : Int32) (i3 : Int32) (h0 : 2 ≤ i12.toInt ∧ i12.toInt ≤ 9) : Ok (fX6_ofPlace i12 f18 f20 i2 i3) (Sx ["java/lang/IndexOutOfBoundsException", "java/lang/IllegalArgumentException"] ((0 ≤ i2.toInt ∧ i2.toInt < i12.toInt) ∧ 0 ≤ i3.toInt ∧ i3.toInt ≤ 3) (fun z => True)) := by
  unfold fX6_ofPlace
  refine Ok_xb (ok_X6_needPlace i12 i2 (by first | omega | assumption | (try simp only [tl0, tl1, tl2, tl3, tl4, tl5, tl6, tl8, tl9, tl10, tl50, tl81, tl100, tl1000, tl9999, tlm1, tlm9, tlm50, tl2147483647]; omega))) (fun e he hn => ⟨(by simp only [List.mem_cons, List.not_mem_nil, or_false] at he ⊢; first | exact he | exact Or.inl he | exact Or.inr he | (rcases he with he | he <;> simp [he])), by intro g; exact hn (by first | omega | assumption | (try simp only [tl0, tl1, tl2, tl3, tl4, tl5, tl6, tl8, tl9, tl10, tl50, tl81, tl100, tl1000, tl9999, tlm1, tlm9, tlm50, tl2147483647]; omega))⟩) (fun z21 hz21 => ?_)
  try dsimp only at hz21
  try simp only [tl0, tl1, tl2, tl3, tl4, tl5, tl6, tl8, tl9, tl10, tl50, tl81, tl100, tl1000, tl9999, tlm1, tlm9, tlm50, tl2147483647] at hz21
  refine Ok_xb (ok_X6_needWithin i3 (0 : Int32) (3 : Int32)) (fun e he hn => ⟨(by simp only [List.mem_cons, List.not_mem_nil, or_false] at he ⊢; first | exact he | exact Or.inl he | exact Or.inr he | (rcases he with he | he <;> simp [he])), by intro g; exact hn (by first | omega | assumption | (try simp only [tl0, tl1, tl2, tl3, tl4, tl5, tl6, tl8, tl9, tl10, tl50, tl81, tl100, tl1000, tl9999, tlm1, tlm9, tlm50, tl2147483647]; omega))⟩) (fun z22 hz22 => ?_)
  try dsimp only at hz22
  try simp only [tl0, tl1, tl2, tl3, tl4, tl5, tl6, tl8, tl9, tl10, tl50, tl81, tl100, tl1000, tl9999, tlm1, tlm9, tlm50, tl2147483647] at hz22
  refine Ok_if ?_ ?_
  · intro h
    have c358 : i3.toInt = 0 := i32eq h
    refine Ok_bind (ok_X1_sumFrom f18 i2 i12 (by first | omega | assumption | (try simp only [tl0, tl1, tl2, tl3, tl4, tl5, tl6, tl8, tl9, tl10, tl50, tl81, tl100, tl1000, tl9999, tlm1, tlm9, tlm50, tl2147483647]; omega))) (fun z23 hz23 => ?_)
    exact Ok_some trivial
  · intro h
    have c359 : i3.toInt ≠ 0 := i32ne h
    refine Ok_if ?_ ?_
    · intro h
      have c360 : i3.toInt = 1 := i32eq h
      refine Ok_bind (ok_X1_sumTo f18 i2 i12 (by first | omega | assumption | (try simp only [tl0, tl1, tl2, tl3, tl4, tl5, tl6, tl8, tl9, tl10, tl50, tl81, tl100, tl1000, tl9999, tlm1, tlm9, tlm50, tl2147483647]; omega))) (fun z24 hz24 => ?_)
      exact Ok_some trivial
    · intro h
      have c361 : i3.toInt ≠ 1 := i32ne h
      refine Ok_if ?_ ?_
      · intro h
        have c362 : i3.toInt = 2 := i32eq h
        refine Ok_bind (ok_X1_sumFrom f20 i2 i12 (by first | omega | assumption | (try simp only [tl0, tl1, tl2, tl3, tl4, tl5, tl6, tl8, tl9, tl10, tl50, tl81, tl100, tl1000, tl9999, tlm1, tlm9, tlm50, tl2147483647]; omega))) (fun z25 hz25 => ?_)
        exact Ok_some trivial
      · intro h
        have c363 : i3.toInt ≠ 2 := i32ne h
        refine Ok_bind (ok_X1_sumAboveZeroFrom f20 i2 i12 (by first | omega | assumption | (try simp only [tl0, tl1, tl2, tl3, tl4, tl5, tl6, tl8, tl9, tl10, tl50, tl81, tl100, tl1000, tl9999, tlm1, tlm9, tlm50, tl2147483647]; omega))) (fun z26 hz26 => ?_)
        exact Ok_some trivial
set_option maxRecDepth 4000 in
theorem ok_X6_needSet (i11 : Int32) (i2 : Int32) (h0 : 2 ≤ i11.toInt ∧ i11.toInt ≤ 9) : Ok (fX6_needSet i11 i2) (Sx ["java/lang/IllegalArgumentException"] (False) (fun z => True)) := by
  unfold fX6_needSet
  refine Ok_bind (ok_X2_allPlaces i11 (by first | omega | assumption | (try simp only [tl0, tl1, tl2, tl3, tl4, tl5, tl6, tl8, tl9, tl10, tl50, tl81, tl100, tl1000, tl9999, tlm1, tlm9, tlm50, tl2147483647]; omega))) (fun z16 hz16 => ?_)
  try dsimp only at hz16
  try simp only [tl0, tl1, tl2, tl3, tl4, tl5, tl6, tl8, tl9, tl10, tl50, tl81, tl100, tl1000, tl9999, tlm1, tlm9, tlm50, tl2147483647] at hz16
  refine Ok_xb (ok_X6_needWithin i2 (0 : Int32) z16) (fun e he hn => ⟨(by simp only [List.mem_cons, List.not_mem_nil, or_false] at he ⊢; first | exact he | exact Or.inl he | exact Or.inr he | (rcases he with he | he <;> simp [he])), id⟩) (fun z17 hz17 => ?_)
  try dsimp only at hz17
  try simp only [tl0, tl1, tl2, tl3, tl4, tl5, tl6, tl8, tl9, tl10, tl50, tl81, tl100, tl1000, tl9999, tlm1, tlm9, tlm50, tl2147483647] at hz17
  exact Ok_some trivial
set_option maxRecDepth 4000 in
theorem ok_X6_cut (i11 : Int32) (i12 : Int32) (i13 : Int32) (f17 : Nat → Int32) (i2 : Int32) (h0 : 2 ≤ i11.toInt ∧ i11.toInt ≤ 9) : Ok (fX6_cut i11 i12 i13 f17 i2) (Sx ["java/lang/IllegalArgumentException"] (False) (fun z => True)) := by
  unfold fX6_cut
  refine Ok_xb (ok_X6_needSet i11 i2 (by first | omega | assumption | (try simp only [tl0, tl1, tl2, tl3, tl4, tl5, tl6, tl8, tl9, tl10, tl50, tl81, tl100, tl1000, tl9999, tlm1, tlm9, tlm50, tl2147483647]; omega))) (fun e he hn => ⟨(by simp only [List.mem_cons, List.not_mem_nil, or_false] at he ⊢; first | exact he | exact Or.inl he | exact Or.inr he | (rcases he with he | he <;> simp [he])), id⟩) (fun z18 hz18 => ?_)
  refine Ok_bind (ok_X0_isCut i12 i13 i2) (fun z19 hz19 => ?_)
  refine Ok_if ?_ ?_
  · intro h
    have c364 : z19.toInt = 0 := i32eq h
    exact Ok_some trivial
  · intro h
    have c365 : z19.toInt ≠ 0 := i32ne h
    refine Ok_bind (ok_X0_sumAcross i11 f17 i2 (by first | omega | assumption | (try simp only [tl0, tl1, tl2, tl3, tl4, tl5, tl6, tl8, tl9, tl10, tl50, tl81, tl100, tl1000, tl9999, tlm1, tlm9, tlm50, tl2147483647]; omega))) (fun z20 hz20 => ?_)
    exact Ok_some trivial
set_option maxRecDepth 4000 in
theorem ok_X6_least (i10 : Int32) (i11 : Int32) (i12 : Int32) (f16 : Nat → Int32) (h0 : 2 ≤ i10.toInt ∧ i10.toInt ≤ 9) : Ok (fX6_least i10 i11 i12 f16) (fun z => True) := by
  unfold fX6_least
  refine Ok_bind (ok_X0_leastRoom i10 i11 i12 f16 (by first | omega | assumption | (try simp only [tl0, tl1, tl2, tl3, tl4, tl5, tl6, tl8, tl9, tl10, tl50, tl81, tl100, tl1000, tl9999, tlm1, tlm9, tlm50, tl2147483647]; omega))) (fun z17 hz17 => ?_)
  exact Ok_some trivial
set_option maxRecDepth 4000 in
theorem ok_X6_isLeast (i11 : Int32) (i12 : Int32) (i13 : Int32) (f17 : Nat → Int32) (i2 : Int32) (h0 : 2 ≤ i11.toInt ∧ i11.toInt ≤ 9) : Ok (fX6_isLeast i11 i12 i13 f17 i2) (Sx ["java/lang/IllegalArgumentException"] (False) (fun z => True)) := by
  unfold fX6_isLeast
  refine Ok_xb (ok_X6_needSet i11 i2 (by first | omega | assumption | (try simp only [tl0, tl1, tl2, tl3, tl4, tl5, tl6, tl8, tl9, tl10, tl50, tl81, tl100, tl1000, tl9999, tlm1, tlm9, tlm50, tl2147483647]; omega))) (fun e he hn => ⟨(by simp only [List.mem_cons, List.not_mem_nil, or_false] at he ⊢; first | exact he | exact Or.inl he | exact Or.inr he | (rcases he with he | he <;> simp [he])), id⟩) (fun z18 hz18 => ?_)
  refine Ok_bind (ok_X0_leastRoom i11 i12 i13 f17 (by first | omega | assumption | (try simp only [tl0, tl1, tl2, tl3, tl4, tl5, tl6, tl8, tl9, tl10, tl50, tl81, tl100, tl1000, tl9999, tlm1, tlm9, tlm50, tl2147483647]; omega))) (fun z19 hz19 => ?_)
  refine Ok_bind (ok_X0_isLeastCut i11 i12 i13 f17 i2 z19 (by first | omega | assumption | (try simp only [tl0, tl1, tl2, tl3, tl4, tl5, tl6, tl8, tl9, tl10, tl50, tl81, tl100, tl1000, tl9999, tlm1, tlm9, tlm50, tl2147483647]; omega))) (fun z20 hz20 => ?_)
  try dsimp only at hz20
  try simp only [tl0, tl1, tl2, tl3, tl4, tl5, tl6, tl8, tl9, tl10, tl50, tl81, tl100, tl1000, tl9999, tlm1, tlm9, tlm50, tl2147483647] at hz20
  refine Ok_bz (by first | exact Or.inl rfl | exact Or.inr rfl | exact bz_of (by omega) (by omega)) ?_
  exact Ok_some trivial
set_option maxRecDepth 4000 in
theorem ok_X6_leasts (i10 : Int32) (i11 : Int32) (i12 : Int32) (f16 : Nat → Int32) (h0 : 2 ≤ i10.toInt ∧ i10.toInt ≤ 9) : Ok (fX6_leasts i10 i11 i12 f16) (fun z => True) := by
  unfold fX6_leasts
  refine Ok_bind (ok_X0_countOfLeast i10 i11 i12 f16 (by first | omega | assumption | (try simp only [tl0, tl1, tl2, tl3, tl4, tl5, tl6, tl8, tl9, tl10, tl50, tl81, tl100, tl1000, tl9999, tlm1, tlm9, tlm50, tl2147483647]; omega))) (fun z17 hz17 => ?_)
  exact Ok_some trivial
set_option maxRecDepth 4000 in
theorem ok_X6_nthLeast (i11 : Int32) (i12 : Int32) (i13 : Int32) (f17 : Nat → Int32) (i2 : Int32) (h0 : 2 ≤ i11.toInt ∧ i11.toInt ≤ 9) : Ok (fX6_nthLeast i11 i12 i13 f17 i2) (Sx ["java/lang/IllegalArgumentException"] (False) (fun z => True)) := by
  unfold fX6_nthLeast
  refine Ok_xb (ok_X6_needWithin i2 (0 : Int32) (2147483647 : Int32)) (fun e he hn => ⟨(by simp only [List.mem_cons, List.not_mem_nil, or_false] at he ⊢; first | exact he | exact Or.inl he | exact Or.inr he | (rcases he with he | he <;> simp [he])), id⟩) (fun z18 hz18 => ?_)
  try dsimp only at hz18
  try simp only [tl0, tl1, tl2, tl3, tl4, tl5, tl6, tl8, tl9, tl10, tl50, tl81, tl100, tl1000, tl9999, tlm1, tlm9, tlm50, tl2147483647] at hz18
  refine Ok_bind (ok_X0_leastByNumber i11 i12 i13 f17 i2 (by first | omega | assumption | (try simp only [tl0, tl1, tl2, tl3, tl4, tl5, tl6, tl8, tl9, tl10, tl50, tl81, tl100, tl1000, tl9999, tlm1, tlm9, tlm50, tl2147483647]; omega))) (fun z19 hz19 => ?_)
  exact Ok_some trivial
set_option maxRecDepth 4000 in
theorem ok_X6_end (i11 : Int32) (i12 : Int32) (i13 : Int32) (f17 : Nat → Int32) (i2 : Int32) (h0 : 2 ≤ i11.toInt ∧ i11.toInt ≤ 9) : Ok (fX6_end i11 i12 i13 f17 i2) (fun z => True) := by
  unfold fX6_end
  refine Ok_if ?_ ?_
  · intro h
    have c366 : i2.toInt = 0 := i32eq h
    refine Ok_bind (ok_X0_nearest i11 i12 i13 f17 (by first | omega | assumption | (try simp only [tl0, tl1, tl2, tl3, tl4, tl5, tl6, tl8, tl9, tl10, tl50, tl81, tl100, tl1000, tl9999, tlm1, tlm9, tlm50, tl2147483647]; omega))) (fun z18 hz18 => ?_)
    exact Ok_some trivial
  · intro h
    have c367 : i2.toInt ≠ 0 := i32ne h
    refine Ok_bind (ok_X0_farthest i11 i12 i13 f17 (by first | omega | assumption | (try simp only [tl0, tl1, tl2, tl3, tl4, tl5, tl6, tl8, tl9, tl10, tl50, tl81, tl100, tl1000, tl9999, tlm1, tlm9, tlm50, tl2147483647]; omega))) (fun z19 hz19 => ?_)
    exact Ok_some trivial
set_option maxRecDepth 4000 in
theorem ok_X6_value (i10 : Int32) (i11 : Int32) (f16 : Nat → Int32) (h0 : 2 ≤ i10.toInt ∧ i10.toInt ≤ 9) : Ok (fX6_value i10 i11 f16) (fun z => True) := by
  unfold fX6_value
  refine Ok_bind (ok_X2_valueNow i10 i11 f16 (by first | omega | assumption | (try simp only [tl0, tl1, tl2, tl3, tl4, tl5, tl6, tl8, tl9, tl10, tl50, tl81, tl100, tl1000, tl9999, tlm1, tlm9, tlm50, tl2147483647]; omega))) (fun z17 hz17 => ?_)
  exact Ok_some trivial
set_option maxRecDepth 4000 in
theorem ok_X6_mostOfTrial (i11 : Int32) (i12 : Int32) (i13 : Int32) (f17 : Nat → Int32) (f19 : Nat → Int32) (i22 : Int32) (i24 : Int32) (f25 : Nat → Int32) (f26 : Nat → Int32) (i2 : Int32) (h0 : 2 ≤ i11.toInt ∧ i11.toInt ≤ 9) (h1 : 0 ≤ i22.toInt ∧ i22.toInt ≤ 9) (h2 : 0 ≤ i24.toInt ∧ i24.toInt ≤ 10) : Ok (fX6_mostOfTrial i11 i12 i13 f17 f19 i22 i24 f25 f26 i2) (fun z => (0 ≤ z.2.2.1.toInt ∧ z.2.2.1.toInt ≤ 9) ∧ (0 ≤ z.2.2.2.1.toInt ∧ z.2.2.2.1.toInt ≤ 10)) := by
  unfold fX6_mostOfTrial
  refine Ok_bind (ok_X1_clear f19) (fun z27 hz27 => ?_)
  refine Ok_bind (ok_X5_fillTimes i22 i24 f25 f26 i11 i12 i13 f17 z27 i2 (1000 : Int32) (by first | omega | assumption | (try simp only [tl0, tl1, tl2, tl3, tl4, tl5, tl6, tl8, tl9, tl10, tl50, tl81, tl100, tl1000, tl9999, tlm1, tlm9, tlm50, tl2147483647]; omega)) (by first | omega | assumption | (try simp only [tl0, tl1, tl2, tl3, tl4, tl5, tl6, tl8, tl9, tl10, tl50, tl81, tl100, tl1000, tl9999, tlm1, tlm9, tlm50, tl2147483647]; omega)) (by first | omega | assumption | (try simp only [tl0, tl1, tl2, tl3, tl4, tl5, tl6, tl8, tl9, tl10, tl50, tl81, tl100, tl1000, tl9999, tlm1, tlm9, tlm50, tl2147483647]; omega)) (by first | omega | assumption | (try simp only [tl0, tl1, tl2, tl3, tl4, tl5, tl6, tl8, tl9, tl10, tl50, tl81, tl100, tl1000, tl9999, tlm1, tlm9, tlm50, tl2147483647]; omega))) (fun z28 hz28 => ?_)
  try dsimp only at hz28
  try simp only [tl0, tl1, tl2, tl3, tl4, tl5, tl6, tl8, tl9, tl10, tl50, tl81, tl100, tl1000, tl9999, tlm1, tlm9, tlm50, tl2147483647] at hz28
  refine Ok_bind (ok_X2_valueNow i11 i12 z28.2.2.2.2.2 (by first | omega | assumption | (try simp only [tl0, tl1, tl2, tl3, tl4, tl5, tl6, tl8, tl9, tl10, tl50, tl81, tl100, tl1000, tl9999, tlm1, tlm9, tlm50, tl2147483647]; omega))) (fun z29 hz29 => ?_)
  refine Ok_some ?_
  try dsimp only
  try simp only [tl0, tl1, tl2, tl3, tl4, tl5, tl6, tl8, tl9, tl10, tl50, tl81, tl100, tl1000, tl9999, tlm1, tlm9, tlm50, tl2147483647]
  first | trivial | omega | (repeat' first | assumption | omega | apply And.intro)
set_option maxRecDepth 4000 in
theorem ok_X6_most (i11 : Int32) (i12 : Int32) (i13 : Int32) (f17 : Nat → Int32) (f19 : Nat → Int32) (f26 : Nat → Int32) (f28 : Nat → Int32) (i31 : Int32) (i33 : Int32) (f34 : Nat → Int32) (f35 : Nat → Int32) (i2 : Int32) (h0 : 2 ≤ i11.toInt ∧ i11.toInt ≤ 9) (h1 : 0 ≤ i31.toInt ∧ i31.toInt ≤ 9) (h2 : 0 ≤ i33.toInt ∧ i33.toInt ≤ 10) : Ok (fX6_most i11 i12 i13 f17 f19 f26 f28 i31 i33 f34 f35 i2) (Sx ["java/lang/IllegalArgumentException"] (0 ≤ i2.toInt ∧ i2.toInt ≤ 2) (fun z => (0 ≤ z.2.2.2.1.toInt ∧ z.2.2.2.1.toInt ≤ 9) ∧ (0 ≤ z.2.2.2.2.1.toInt ∧ z.2.2.2.2.1.toInt ≤ 10))) := by
  unfold fX6_most
  refine Ok_xb (ok_X6_needWithin i2 (0 : Int32) (2 : Int32)) (fun e he hn => ⟨(by simp only [List.mem_cons, List.not_mem_nil, or_false] at he ⊢; first | exact he | exact Or.inl he | exact Or.inr he | (rcases he with he | he <;> simp [he])), by intro g; exact hn (by first | omega | assumption | (try simp only [tl0, tl1, tl2, tl3, tl4, tl5, tl6, tl8, tl9, tl10, tl50, tl81, tl100, tl1000, tl9999, tlm1, tlm9, tlm50, tl2147483647]; omega))⟩) (fun z36 hz36 => ?_)
  try dsimp only at hz36
  try simp only [tl0, tl1, tl2, tl3, tl4, tl5, tl6, tl8, tl9, tl10, tl50, tl81, tl100, tl1000, tl9999, tlm1, tlm9, tlm50, tl2147483647] at hz36
  refine Ok_bind (ok_X2_become f26 f28 f17 f19) (fun z37 hz37 => ?_)
  refine Ok_bind (ok_X6_mostOfTrial i11 i12 i13 z37.1 z37.2 i31 i33 f34 f35 i2 (by first | omega | assumption | (try simp only [tl0, tl1, tl2, tl3, tl4, tl5, tl6, tl8, tl9, tl10, tl50, tl81, tl100, tl1000, tl9999, tlm1, tlm9, tlm50, tl2147483647]; omega)) (by first | omega | assumption | (try simp only [tl0, tl1, tl2, tl3, tl4, tl5, tl6, tl8, tl9, tl10, tl50, tl81, tl100, tl1000, tl9999, tlm1, tlm9, tlm50, tl2147483647]; omega)) (by first | omega | assumption | (try simp only [tl0, tl1, tl2, tl3, tl4, tl5, tl6, tl8, tl9, tl10, tl50, tl81, tl100, tl1000, tl9999, tlm1, tlm9, tlm50, tl2147483647]; omega))) (fun z38 hz38 => ?_)
  try dsimp only at hz38
  try simp only [tl0, tl1, tl2, tl3, tl4, tl5, tl6, tl8, tl9, tl10, tl50, tl81, tl100, tl1000, tl9999, tlm1, tlm9, tlm50, tl2147483647] at hz38
  refine Ok_some ?_
  simp only [Sx]
  try simp only [tl0, tl1, tl2, tl3, tl4, tl5, tl6, tl8, tl9, tl10, tl50, tl81, tl100, tl1000, tl9999, tlm1, tlm9, tlm50, tl2147483647]
  first | trivial | omega | (repeat' first | assumption | omega | apply And.intro)
set_option maxRecDepth 4000 in
theorem ok_X6_isMost (i10 : Int32) (i11 : Int32) (i12 : Int32) (f16 : Nat → Int32) (f18 : Nat → Int32) (f25 : Nat → Int32) (f27 : Nat → Int32) (i30 : Int32) (i32 : Int32) (f33 : Nat → Int32) (f34 : Nat → Int32) (h0 : 2 ≤ i10.toInt ∧ i10.toInt ≤ 9) (h1 : 0 ≤ i30.toInt ∧ i30.toInt ≤ 9) (h2 : 0 ≤ i32.toInt ∧ i32.toInt ≤ 10) : Ok (fX6_isMost i10 i11 i12 f16 f18 f25 f27 i30 i32 f33 f34) (fun z => (0 ≤ z.2.2.2.1.toInt ∧ z.2.2.2.1.toInt ≤ 9) ∧ (0 ≤ z.2.2.2.2.1.toInt ∧ z.2.2.2.2.1.toInt ≤ 10)) := by
  unfold fX6_isMost
  refine Ok_bind (ok_X2_valueNow i10 i11 f18 (by first | omega | assumption | (try simp only [tl0, tl1, tl2, tl3, tl4, tl5, tl6, tl8, tl9, tl10, tl50, tl81, tl100, tl1000, tl9999, tlm1, tlm9, tlm50, tl2147483647]; omega))) (fun z35 hz35 => ?_)
  refine Ok_x0 (ok_X6_most i10 i11 i12 f16 f18 f25 f27 i30 i32 f33 f34 (0 : Int32) (by first | omega | assumption | (try simp only [tl0, tl1, tl2, tl3, tl4, tl5, tl6, tl8, tl9, tl10, tl50, tl81, tl100, tl1000, tl9999, tlm1, tlm9, tlm50, tl2147483647]; omega)) (by first | omega | assumption | (try simp only [tl0, tl1, tl2, tl3, tl4, tl5, tl6, tl8, tl9, tl10, tl50, tl81, tl100, tl1000, tl9999, tlm1, tlm9, tlm50, tl2147483647]; omega)) (by first | omega | assumption | (try simp only [tl0, tl1, tl2, tl3, tl4, tl5, tl6, tl8, tl9, tl10, tl50, tl81, tl100, tl1000, tl9999, tlm1, tlm9, tlm50, tl2147483647]; omega))) (by first | omega | assumption | (try simp only [tl0, tl1, tl2, tl3, tl4, tl5, tl6, tl8, tl9, tl10, tl50, tl81, tl100, tl1000, tl9999, tlm1, tlm9, tlm50, tl2147483647]; omega)) (fun z36 hz36 => ?_)
  try dsimp only at hz36
  try simp only [tl0, tl1, tl2, tl3, tl4, tl5, tl6, tl8, tl9, tl10, tl50, tl81, tl100, tl1000, tl9999, tlm1, tlm9, tlm50, tl2147483647] at hz36
  refine Ok_if ?_ ?_
  · intro h
    have c368 : z35.toInt = z36.1.toInt := i32eq h
    refine Ok_some ?_
    try dsimp only
    try simp only [tl0, tl1, tl2, tl3, tl4, tl5, tl6, tl8, tl9, tl10, tl50, tl81, tl100, tl1000, tl9999, tlm1, tlm9, tlm50, tl2147483647]
    first | trivial | omega | (repeat' first | assumption | omega | apply And.intro)
  · intro h
    have c369 : z35.toInt ≠ z36.1.toInt := i32ne h
    refine Ok_some ?_
    try dsimp only
    try simp only [tl0, tl1, tl2, tl3, tl4, tl5, tl6, tl8, tl9, tl10, tl50, tl81, tl100, tl1000, tl9999, tlm1, tlm9, tlm50, tl2147483647]
    first | trivial | omega | (repeat' first | assumption | omega | apply And.intro)
set_option maxRecDepth 4000 in
theorem ok_X6_layer (i11 : Int32) (i12 : Int32) (f17 : Nat → Int32) (f19 : Nat → Int32) (f23 : Nat → Int32) (i2 : Int32) (h0 : 2 ≤ i11.toInt ∧ i11.toInt ≤ 9) : Ok (fX6_layer i11 i12 f17 f19 f23 i2) (Sx ["java/lang/IndexOutOfBoundsException"] (0 ≤ i2.toInt ∧ i2.toInt < i11.toInt) (fun z => True)) := by
  unfold fX6_layer
  refine Ok_xb (ok_X6_needPlace i11 i2 (by first | omega | assumption | (try simp only [tl0, tl1, tl2, tl3, tl4, tl5, tl6, tl8, tl9, tl10, tl50, tl81, tl100, tl1000, tl9999, tlm1, tlm9, tlm50, tl2147483647]; omega))) (fun e he hn => ⟨(by simp only [List.mem_cons, List.not_mem_nil, or_false] at he ⊢; first | exact he | exact Or.inl he | exact Or.inr he | (rcases he with he | he <;> simp [he])), by intro g; exact hn (by first | omega | assumption | (try simp only [tl0, tl1, tl2, tl3, tl4, tl5, tl6, tl8, tl9, tl10, tl50, tl81, tl100, tl1000, tl9999, tlm1, tlm9, tlm50, tl2147483647]; omega))⟩) (fun z24 hz24 => ?_)
  try dsimp only at hz24
  try simp only [tl0, tl1, tl2, tl3, tl4, tl5, tl6, tl8, tl9, tl10, tl50, tl81, tl100, tl1000, tl9999, tlm1, tlm9, tlm50, tl2147483647] at hz24
  refine Ok_bind (ok_X5_layerOf f23 i11 i12 f17 f19 i2 (by first | omega | assumption | (try simp only [tl0, tl1, tl2, tl3, tl4, tl5, tl6, tl8, tl9, tl10, tl50, tl81, tl100, tl1000, tl9999, tlm1, tlm9, tlm50, tl2147483647]; omega))) (fun z25 hz25 => ?_)
  exact Ok_some trivial
set_option maxRecDepth 4000 in
theorem ok_X6_through (i11 : Int32) (i12 : Int32) (i13 : Int32) (f17 : Nat → Int32) (i2 : Int32) (h0 : 2 ≤ i11.toInt ∧ i11.toInt ≤ 9) : Ok (fX6_through i11 i12 i13 f17 i2) (Sx ["java/lang/IllegalArgumentException"] (False) (fun z => True)) := by
  unfold fX6_through
  refine Ok_xb (ok_X6_needSet i11 i2 (by first | omega | assumption | (try simp only [tl0, tl1, tl2, tl3, tl4, tl5, tl6, tl8, tl9, tl10, tl50, tl81, tl100, tl1000, tl9999, tlm1, tlm9, tlm50, tl2147483647]; omega))) (fun e he hn => ⟨(by simp only [List.mem_cons, List.not_mem_nil, or_false] at he ⊢; first | exact he | exact Or.inl he | exact Or.inr he | (rcases he with he | he <;> simp [he])), id⟩) (fun z18 hz18 => ?_)
  refine Ok_bind (ok_X0_isCut i12 i13 i2) (fun z19 hz19 => ?_)
  refine Ok_if ?_ ?_
  · intro h
    have c370 : z19.toInt = 0 := i32eq h
    exact Ok_some trivial
  · intro h
    have c371 : z19.toInt ≠ 0 := i32ne h
    refine Ok_bind (ok_X0_sumAcross i11 f17 i2 (by first | omega | assumption | (try simp only [tl0, tl1, tl2, tl3, tl4, tl5, tl6, tl8, tl9, tl10, tl50, tl81, tl100, tl1000, tl9999, tlm1, tlm9, tlm50, tl2147483647]; omega))) (fun z20 hz20 => ?_)
    exact Ok_some trivial
set_option maxRecDepth 4000 in
theorem okL_X6_parts_L15 (i11 : Int32) (i12 : Int32) (i13 : Int32) (i2 : Int32) (f78 : Nat → Int32)   (g0 : 2 ≤ i11.toInt ∧ i11.toInt ≤ 9)  : ∀ (n : Nat) (i76 : Int32) (i77 : Int32) (f79 : Nat → Int32) (i80 : Int32) (i81 : Int32) (i82 : Int32) (f83 : Nat → Int32), 0 ≤ i82.toInt → i82.toInt ≤ 10 → 0 ≤ i77.toInt → 100 - i77.toInt < n → 0 < n → Ok (LX6_parts_L15 i11 i12 i13 i2 f78 n i76 i77 f79 i80 i81 i82 f83 ) (fun z => (0 ≤ z.2.2.2.2.2.1.toInt ∧ z.2.2.2.2.2.1.toInt ≤ 10)) := by
  intro n
  induction n with
  | zero => intro i76 i77 f79 i80 i81 i82 f83 v0 v1 v2 hm h0; exact absurd h0 (Nat.lt_irrefl 0)
  | succ n ih =>
    intro i76 i77 f79 i80 i81 i82 f83 v0 v1 v2 hm h0
    show Ok (BX6_parts_L15 i11 i12 i13 i2 f78 i76 i77 f79 i80 i81 i82 f83 (fun i76 i77 f79 i80 i81 i82 f83 => LX6_parts_L15 i11 i12 i13 i2 f78 n i76 i77 f79 i80 i81 i82 f83 ) ) _
    unfold BX6_parts_L15
    refine Ok_if ?_ ?_
    · intro h
      have c372 : 100 ≤ i77.toInt := i32le h
      refine Ok_some ?_
      try dsimp only
      try simp only [tl0, tl1, tl2, tl3, tl4, tl5, tl6, tl8, tl9, tl10, tl50, tl81, tl100, tl1000, tl9999, tlm1, tlm9, tlm50, tl2147483647]
      first | trivial | omega | (repeat' first | assumption | omega | apply And.intro)
    · intro h
      have c373 : i77.toInt < 100 := i32nle h
      refine Ok_bind (ok_X3_find i80 i81 i82 f83 i11 i12 i13 f79 (by first | omega | assumption | (try simp only [tl0, tl1, tl2, tl3, tl4, tl5, tl6, tl8, tl9, tl10, tl50, tl81, tl100, tl1000, tl9999, tlm1, tlm9, tlm50, tl2147483647]; omega)) (by first | omega | assumption | (try simp only [tl0, tl1, tl2, tl3, tl4, tl5, tl6, tl8, tl9, tl10, tl50, tl81, tl100, tl1000, tl9999, tlm1, tlm9, tlm50, tl2147483647]; omega))) (fun z84 hz84 => ?_)
      try dsimp only at hz84
      try simp only [tl0, tl1, tl2, tl3, tl4, tl5, tl6, tl8, tl9, tl10, tl50, tl81, tl100, tl1000, tl9999, tlm1, tlm9, tlm50, tl2147483647] at hz84
      refine Ok_if ?_ ?_
      · intro h
        have c374 : z84.1.toInt = 0 := i32eq h
        refine Ok_some ?_
        try dsimp only
        try simp only [tl0, tl1, tl2, tl3, tl4, tl5, tl6, tl8, tl9, tl10, tl50, tl81, tl100, tl1000, tl9999, tlm1, tlm9, tlm50, tl2147483647]
        first | trivial | omega | (repeat' first | assumption | omega | apply And.intro)
      · intro h
        have c375 : z84.1.toInt ≠ 0 := i32ne h
        refine Ok_bind (ok_X3_takeFrom z84.2.1 z84.2.2.2.1 z84.2.2.2.2 f79 (by first | omega | assumption | (try simp only [tl0, tl1, tl2, tl3, tl4, tl5, tl6, tl8, tl9, tl10, tl50, tl81, tl100, tl1000, tl9999, tlm1, tlm9, tlm50, tl2147483647]; omega))) (fun z85 hz85 => ?_)
        refine Ok_jn (fun k86 wk86 => ?_)
        refine Ok_if ?_ ?_
        · intro h
          have c376 : z84.2.2.1.toInt = i2.toInt := i32eq h
          try (have e377 := inc_iv (x := i76) (by omega))
          rw [wk86]
          show Ok ((fun i76 i77 f79 i80 i81 i82 f83 => LX6_parts_L15 i11 i12 i13 i2 f78 n i76 i77 f79 i80 i81 i82 f83 ) (i76 + (1 : Int32)) (i77 + (1 : Int32)) z85 z84.2.1 z84.2.2.1 z84.2.2.2.1 z84.2.2.2.2) _
          try (have e378 := inc_iv (x := i77) (by omega))
          exact ih (i76 + (1 : Int32)) (i77 + (1 : Int32)) z85 z84.2.1 z84.2.2.1 z84.2.2.2.1 z84.2.2.2.2 (by first | omega | assumption | (try simp only [tl0, tl1, tl2, tl3, tl4, tl5, tl6, tl8, tl9, tl10, tl50, tl81, tl100, tl1000, tl9999, tlm1, tlm9, tlm50, tl2147483647]; omega)) (by first | omega | assumption | (try simp only [tl0, tl1, tl2, tl3, tl4, tl5, tl6, tl8, tl9, tl10, tl50, tl81, tl100, tl1000, tl9999, tlm1, tlm9, tlm50, tl2147483647]; omega)) (by first | omega | assumption | (try simp only [tl0, tl1, tl2, tl3, tl4, tl5, tl6, tl8, tl9, tl10, tl50, tl81, tl100, tl1000, tl9999, tlm1, tlm9, tlm50, tl2147483647]; omega)) (by first | omega | assumption | (try simp only [tl0, tl1, tl2, tl3, tl4, tl5, tl6, tl8, tl9, tl10, tl50, tl81, tl100, tl1000, tl9999, tlm1, tlm9, tlm50, tl2147483647]; omega)) (by first | omega | assumption | (try simp only [tl0, tl1, tl2, tl3, tl4, tl5, tl6, tl8, tl9, tl10, tl50, tl81, tl100, tl1000, tl9999, tlm1, tlm9, tlm50, tl2147483647]; omega))
        · intro h
          have c379 : z84.2.2.1.toInt ≠ i2.toInt := i32ne h
          rw [wk86]
          show Ok ((fun i76 i77 f79 i80 i81 i82 f83 => LX6_parts_L15 i11 i12 i13 i2 f78 n i76 i77 f79 i80 i81 i82 f83 ) i76 (i77 + (1 : Int32)) z85 z84.2.1 z84.2.2.1 z84.2.2.2.1 z84.2.2.2.2) _
          try (have e380 := inc_iv (x := i77) (by omega))
          exact ih i76 (i77 + (1 : Int32)) z85 z84.2.1 z84.2.2.1 z84.2.2.2.1 z84.2.2.2.2 (by first | omega | assumption | (try simp only [tl0, tl1, tl2, tl3, tl4, tl5, tl6, tl8, tl9, tl10, tl50, tl81, tl100, tl1000, tl9999, tlm1, tlm9, tlm50, tl2147483647]; omega)) (by first | omega | assumption | (try simp only [tl0, tl1, tl2, tl3, tl4, tl5, tl6, tl8, tl9, tl10, tl50, tl81, tl100, tl1000, tl9999, tlm1, tlm9, tlm50, tl2147483647]; omega)) (by first | omega | assumption | (try simp only [tl0, tl1, tl2, tl3, tl4, tl5, tl6, tl8, tl9, tl10, tl50, tl81, tl100, tl1000, tl9999, tlm1, tlm9, tlm50, tl2147483647]; omega)) (by first | omega | assumption | (try simp only [tl0, tl1, tl2, tl3, tl4, tl5, tl6, tl8, tl9, tl10, tl50, tl81, tl100, tl1000, tl9999, tlm1, tlm9, tlm50, tl2147483647]; omega)) (by first | omega | assumption | (try simp only [tl0, tl1, tl2, tl3, tl4, tl5, tl6, tl8, tl9, tl10, tl50, tl81, tl100, tl1000, tl9999, tlm1, tlm9, tlm50, tl2147483647]; omega))
set_option maxRecDepth 4000 in
theorem ok_X6_parts (i11 : Int32) (i12 : Int32) (i13 : Int32) (f17 : Nat → Int32) (f19 : Nat → Int32) (f26 : Nat → Int32) (f28 : Nat → Int32) (i30 : Int32) (i31 : Int32) (i33 : Int32) (f34 : Nat → Int32) (i2 : Int32) (h0 : 2 ≤ i11.toInt ∧ i11.toInt ≤ 9) (h1 : 0 ≤ i33.toInt ∧ i33.toInt ≤ 10) : Ok (fX6_parts i11 i12 i13 f17 f19 f26 f28 i30 i31 i33 f34 i2) (fun z => (0 ≤ z.2.2.2.2.2.1.toInt ∧ z.2.2.2.2.2.1.toInt ≤ 10)) := by
  unfold fX6_parts
  refine Ok_bind (ok_X2_become f26 f28 f17 f19) (fun z35 hz35 => ?_)
  refine Ok_mono (okL_X6_parts_L15 i11 i12 i13 i2 z35.1 (by first | omega | assumption | (try simp only [tl0, tl1, tl2, tl3, tl4, tl5, tl6, tl8, tl9, tl10, tl50, tl81, tl100, tl1000, tl9999, tlm1, tlm9, tlm50, tl2147483647]; omega)) 102 (0 : Int32) (0 : Int32) z35.2 i30 i31 i33 f34 (by first | omega | assumption | (try simp only [tl0, tl1, tl2, tl3, tl4, tl5, tl6, tl8, tl9, tl10, tl50, tl81, tl100, tl1000, tl9999, tlm1, tlm9, tlm50, tl2147483647]; omega)) (by first | omega | assumption | (try simp only [tl0, tl1, tl2, tl3, tl4, tl5, tl6, tl8, tl9, tl10, tl50, tl81, tl100, tl1000, tl9999, tlm1, tlm9, tlm50, tl2147483647]; omega)) (by first | omega | assumption | (try simp only [tl0, tl1, tl2, tl3, tl4, tl5, tl6, tl8, tl9, tl10, tl50, tl81, tl100, tl1000, tl9999, tlm1, tlm9, tlm50, tl2147483647]; omega)) (by first | omega | assumption | (try simp only [tl0, tl1, tl2, tl3, tl4, tl5, tl6, tl8, tl9, tl10, tl50, tl81, tl100, tl1000, tl9999, tlm1, tlm9, tlm50, tl2147483647]; omega)) (by first | omega | assumption | (try simp only [tl0, tl1, tl2, tl3, tl4, tl5, tl6, tl8, tl9, tl10, tl50, tl81, tl100, tl1000, tl9999, tlm1, tlm9, tlm50, tl2147483647]; omega))) ?_
  intro z hz
  first | exact hz | (simp only [Sx] at *; omega) | (dsimp only at *; omega)
set_option maxRecDepth 4000 in
theorem ok_X6_between (i12 : Int32) (f18 : Nat → Int32) (f20 : Nat → Int32) (f27 : Nat → Int32) (f29 : Nat → Int32) (i32 : Int32) (i34 : Int32) (f35 : Nat → Int32) (f36 : Nat → Int32) (i2 : Int32) (i3 : Int32) (h0 : 2 ≤ i12.toInt ∧ i12.toInt ≤ 9) (h1 : 0 ≤ i32.toInt ∧ i32.toInt ≤ 9) (h2 : 0 ≤ i34.toInt ∧ i34.toInt ≤ 10) : Ok (fX6_between i12 f18 f20 f27 f29 i32 i34 f35 f36 i2 i3) (Sx ["java/lang/IndexOutOfBoundsException", "java/lang/IllegalArgumentException"] (False) (fun z => (0 ≤ z.2.2.2.1.toInt ∧ z.2.2.2.1.toInt ≤ 9) ∧ (0 ≤ z.2.2.2.2.1.toInt ∧ z.2.2.2.2.1.toInt ≤ 10))) := by
  unfold fX6_between
  refine Ok_xb (ok_X6_needPair i12 i2 i3 (by first | omega | assumption | (try simp only [tl0, tl1, tl2, tl3, tl4, tl5, tl6, tl8, tl9, tl10, tl50, tl81, tl100, tl1000, tl9999, tlm1, tlm9, tlm50, tl2147483647]; omega))) (fun e he hn => ⟨(by simp only [List.mem_cons, List.not_mem_nil, or_false] at he ⊢; first | exact he | exact Or.inl he | exact Or.inr he | (rcases he with he | he <;> simp [he])), id⟩) (fun z37 hz37 => ?_)
  refine Ok_bind (ok_X2_become f27 f29 f18 f20) (fun z38 hz38 => ?_)
  refine Ok_bind (ok_X6_mostOfTrial i12 i2 i3 z38.1 z38.2 i32 i34 f35 f36 (0 : Int32) (by first | omega | assumption | (try simp only [tl0, tl1, tl2, tl3, tl4, tl5, tl6, tl8, tl9, tl10, tl50, tl81, tl100, tl1000, tl9999, tlm1, tlm9, tlm50, tl2147483647]; omega)) (by first | omega | assumption | (try simp only [tl0, tl1, tl2, tl3, tl4, tl5, tl6, tl8, tl9, tl10, tl50, tl81, tl100, tl1000, tl9999, tlm1, tlm9, tlm50, tl2147483647]; omega)) (by first | omega | assumption | (try simp only [tl0, tl1, tl2, tl3, tl4, tl5, tl6, tl8, tl9, tl10, tl50, tl81, tl100, tl1000, tl9999, tlm1, tlm9, tlm50, tl2147483647]; omega))) (fun z39 hz39 => ?_)
  try dsimp only at hz39
  try simp only [tl0, tl1, tl2, tl3, tl4, tl5, tl6, tl8, tl9, tl10, tl50, tl81, tl100, tl1000, tl9999, tlm1, tlm9, tlm50, tl2147483647] at hz39
  refine Ok_some ?_
  simp only [Sx]
  try simp only [tl0, tl1, tl2, tl3, tl4, tl5, tl6, tl8, tl9, tl10, tl50, tl81, tl100, tl1000, tl9999, tlm1, tlm9, tlm50, tl2147483647]
  first | trivial | omega | (repeat' first | assumption | omega | apply And.intro)
set_option maxRecDepth 4000 in
theorem ok_X6_about (i10 : Int32) (i11 : Int32) (i12 : Int32) (f16 : Nat → Int32) (f18 : Nat → Int32) (f25 : Nat → Int32) (f27 : Nat → Int32) (i30 : Int32) (i32 : Int32) (f33 : Nat → Int32) (f34 : Nat → Int32) (h0 : 2 ≤ i10.toInt ∧ i10.toInt ≤ 9) (h1 : 0 ≤ i30.toInt ∧ i30.toInt ≤ 9) (h2 : 0 ≤ i32.toInt ∧ i32.toInt ≤ 10) : Ok (fX6_about i10 i11 i12 f16 f18 f25 f27 i30 i32 f33 f34) (fun z => (0 ≤ z.2.2.2.1.toInt ∧ z.2.2.2.1.toInt ≤ 9) ∧ (0 ≤ z.2.2.2.2.1.toInt ∧ z.2.2.2.2.1.toInt ≤ 10)) := by
  unfold fX6_about
  refine Ok_bind (ok_X2_become f25 f27 f16 f18) (fun z35 hz35 => ?_)
  refine Ok_bind (ok_X2_turn i10 z35.1 z35.2 (by first | omega | assumption | (try simp only [tl0, tl1, tl2, tl3, tl4, tl5, tl6, tl8, tl9, tl10, tl50, tl81, tl100, tl1000, tl9999, tlm1, tlm9, tlm50, tl2147483647]; omega))) (fun z36 hz36 => ?_)
  refine Ok_bind (ok_X6_mostOfTrial i10 i12 i11 z36.1 z36.2 i30 i32 f33 f34 (0 : Int32) (by first | omega | assumption | (try simp only [tl0, tl1, tl2, tl3, tl4, tl5, tl6, tl8, tl9, tl10, tl50, tl81, tl100, tl1000, tl9999, tlm1, tlm9, tlm50, tl2147483647]; omega)) (by first | omega | assumption | (try simp only [tl0, tl1, tl2, tl3, tl4, tl5, tl6, tl8, tl9, tl10, tl50, tl81, tl100, tl1000, tl9999, tlm1, tlm9, tlm50, tl2147483647]; omega)) (by first | omega | assumption | (try simp only [tl0, tl1, tl2, tl3, tl4, tl5, tl6, tl8, tl9, tl10, tl50, tl81, tl100, tl1000, tl9999, tlm1, tlm9, tlm50, tl2147483647]; omega))) (fun z37 hz37 => ?_)
  try dsimp only at hz37
  try simp only [tl0, tl1, tl2, tl3, tl4, tl5, tl6, tl8, tl9, tl10, tl50, tl81, tl100, tl1000, tl9999, tlm1, tlm9, tlm50, tl2147483647] at hz37
  refine Ok_some ?_
  try dsimp only
  try simp only [tl0, tl1, tl2, tl3, tl4, tl5, tl6, tl8, tl9, tl10, tl50, tl81, tl100, tl1000, tl9999, tlm1, tlm9, tlm50, tl2147483647]
  first | trivial | omega | (repeat' first | assumption | omega | apply And.intro)
set_option maxRecDepth 4000 in
theorem ok_X6_apart (i11 : Int32) (i12 : Int32) (i13 : Int32) (f17 : Nat → Int32) (f19 : Nat → Int32) (f26 : Nat → Int32) (f28 : Nat → Int32) (i31 : Int32) (i33 : Int32) (f34 : Nat → Int32) (f35 : Nat → Int32) (i2 : Int32) (h0 : 2 ≤ i11.toInt ∧ i11.toInt ≤ 9) (h1 : 0 ≤ i31.toInt ∧ i31.toInt ≤ 9) (h2 : 0 ≤ i33.toInt ∧ i33.toInt ≤ 10) : Ok (fX6_apart i11 i12 i13 f17 f19 f26 f28 i31 i33 f34 f35 i2) (Sx ["java/lang/IllegalArgumentException"] (0 ≤ i2.toInt ∧ i2.toInt ≤ 1) (fun z => (0 ≤ z.2.2.2.1.toInt ∧ z.2.2.2.1.toInt ≤ 9) ∧ (0 ≤ z.2.2.2.2.1.toInt ∧ z.2.2.2.2.1.toInt ≤ 10))) := by
  unfold fX6_apart
  refine Ok_xb (ok_X6_needWithin i2 (0 : Int32) (1 : Int32)) (fun e he hn => ⟨(by simp only [List.mem_cons, List.not_mem_nil, or_false] at he ⊢; first | exact he | exact Or.inl he | exact Or.inr he | (rcases he with he | he <;> simp [he])), by intro g; exact hn (by first | omega | assumption | (try simp only [tl0, tl1, tl2, tl3, tl4, tl5, tl6, tl8, tl9, tl10, tl50, tl81, tl100, tl1000, tl9999, tlm1, tlm9, tlm50, tl2147483647]; omega))⟩) (fun z36 hz36 => ?_)
  try dsimp only at hz36
  try simp only [tl0, tl1, tl2, tl3, tl4, tl5, tl6, tl8, tl9, tl10, tl50, tl81, tl100, tl1000, tl9999, tlm1, tlm9, tlm50, tl2147483647] at hz36
  refine Ok_bind (ok_X2_become f26 f28 f17 f19) (fun z37 hz37 => ?_)
  refine Ok_bind (ok_X2_narrowToOne i11 z37.1 (by first | omega | assumption | (try simp only [tl0, tl1, tl2, tl3, tl4, tl5, tl6, tl8, tl9, tl10, tl50, tl81, tl100, tl1000, tl9999, tlm1, tlm9, tlm50, tl2147483647]; omega))) (fun z38 hz38 => ?_)
  refine Ok_if ?_ ?_
  · intro h
    have c383 : i2.toInt = 0 := i32eq h
    refine Ok_bind (ok_X6_mostOfTrial i11 i12 i13 z38 z37.2 i31 i33 f34 f35 (0 : Int32) (by first | omega | assumption | (try simp only [tl0, tl1, tl2, tl3, tl4, tl5, tl6, tl8, tl9, tl10, tl50, tl81, tl100, tl1000, tl9999, tlm1, tlm9, tlm50, tl2147483647]; omega)) (by first | omega | assumption | (try simp only [tl0, tl1, tl2, tl3, tl4, tl5, tl6, tl8, tl9, tl10, tl50, tl81, tl100, tl1000, tl9999, tlm1, tlm9, tlm50, tl2147483647]; omega)) (by first | omega | assumption | (try simp only [tl0, tl1, tl2, tl3, tl4, tl5, tl6, tl8, tl9, tl10, tl50, tl81, tl100, tl1000, tl9999, tlm1, tlm9, tlm50, tl2147483647]; omega))) (fun z40 hz40 => ?_)
    try dsimp only at hz40
    try simp only [tl0, tl1, tl2, tl3, tl4, tl5, tl6, tl8, tl9, tl10, tl50, tl81, tl100, tl1000, tl9999, tlm1, tlm9, tlm50, tl2147483647] at hz40
    refine Ok_some ?_
    simp only [Sx]
    try simp only [tl0, tl1, tl2, tl3, tl4, tl5, tl6, tl8, tl9, tl10, tl50, tl81, tl100, tl1000, tl9999, tlm1, tlm9, tlm50, tl2147483647]
    first | trivial | omega | (repeat' first | assumption | omega | apply And.intro)
  · intro h
    have c384 : i2.toInt ≠ 0 := i32ne h
    refine Ok_bind (ok_X0_leastRoom i11 i12 i13 z38 (by first | omega | assumption | (try simp only [tl0, tl1, tl2, tl3, tl4, tl5, tl6, tl8, tl9, tl10, tl50, tl81, tl100, tl1000, tl9999, tlm1, tlm9, tlm50, tl2147483647]; omega))) (fun z39 hz39 => ?_)
    refine Ok_some ?_
    simp only [Sx]
    try simp only [tl0, tl1, tl2, tl3, tl4, tl5, tl6, tl8, tl9, tl10, tl50, tl81, tl100, tl1000, tl9999, tlm1, tlm9, tlm50, tl2147483647]
    first | trivial | omega | (repeat' first | assumption | omega | apply And.intro)
set_option maxRecDepth 4000 in
theorem ok_X6_house (i8 : Int32) (i9 : Int32) (i10 : Int32) (i2 : Int32)  : Ok (fX6_house i8 i9 i10 i2) (Sx ["java/lang/IllegalArgumentException"] (0 ≤ i2.toInt ∧ i2.toInt ≤ 2) (fun z => True)) := by
  unfold fX6_house
  refine Ok_xb (ok_X6_needWithin i2 (0 : Int32) (2 : Int32)) (fun e he hn => ⟨(by simp only [List.mem_cons, List.not_mem_nil, or_false] at he ⊢; first | exact he | exact Or.inl he | exact Or.inr he | (rcases he with he | he <;> simp [he])), by intro g; exact hn (by first | omega | assumption | (try simp only [tl0, tl1, tl2, tl3, tl4, tl5, tl6, tl8, tl9, tl10, tl50, tl81, tl100, tl1000, tl9999, tlm1, tlm9, tlm50, tl2147483647]; omega))⟩) (fun z11 hz11 => ?_)
  try dsimp only at hz11
  try simp only [tl0, tl1, tl2, tl3, tl4, tl5, tl6, tl8, tl9, tl10, tl50, tl81, tl100, tl1000, tl9999, tlm1, tlm9, tlm50, tl2147483647] at hz11
  refine Ok_if ?_ ?_
  · intro h
    have c385 : i2.toInt = 0 := i32eq h
    exact Ok_some trivial
  · intro h
    have c386 : i2.toInt ≠ 0 := i32ne h
    refine Ok_if ?_ ?_
    · intro h
      have c387 : i2.toInt = 1 := i32eq h
      exact Ok_some trivial
    · intro h
      have c388 : i2.toInt ≠ 1 := i32ne h
      exact Ok_some trivial
set_option maxRecDepth 4000 in
theorem ok_X6_isValueSound (i11 : Int32) (i12 : Int32) (i13 : Int32) (f17 : Nat → Int32) (f19 : Nat → Int32) (f25 : Nat → Int32) (f26 : Nat → Int32) (i2 : Int32) (h0 : 2 ≤ i11.toInt ∧ i11.toInt ≤ 9) : Ok (fX6_isValueSound i11 i12 i13 f17 f19 f25 f26 i2) (fun z => (0 ≤ z.2.1.toInt ∧ z.2.1.toInt ≤ 10)) := by
  unfold fX6_isValueSound
  refine Ok_bind (ok_X2_valueNow i11 i12 f19 (by first | omega | assumption | (try simp only [tl0, tl1, tl2, tl3, tl4, tl5, tl6, tl8, tl9, tl10, tl50, tl81, tl100, tl1000, tl9999, tlm1, tlm9, tlm50, tl2147483647]; omega))) (fun z27 hz27 => ?_)
  refine Ok_bind (ok_X5_find f25 f26 i11 i12 i13 f17 f19 (0 : Int32) (by first | omega | assumption | (try simp only [tl0, tl1, tl2, tl3, tl4, tl5, tl6, tl8, tl9, tl10, tl50, tl81, tl100, tl1000, tl9999, tlm1, tlm9, tlm50, tl2147483647]; omega))) (fun z28 hz28 => ?_)
  try dsimp only at hz28
  try simp only [tl0, tl1, tl2, tl3, tl4, tl5, tl6, tl8, tl9, tl10, tl50, tl81, tl100, tl1000, tl9999, tlm1, tlm9, tlm50, tl2147483647] at hz28
  refine Ok_jn (fun k29 wk29 => ?_)
  refine Ok_if ?_ ?_
  · intro h
    have c390 : z28.1.toInt = 0 := i32eq h
    rw [wk29]
    show Ok (if i2 < z27 then (some ((0 : Int32), z28.1, z28.2.1, z28.2.2)) else (jn (fun (i34 : Int32) => if i34 = (1 : Int32) then (some ((1 : Int32), z28.1, z28.2.1, z28.2.2)) else (some ((0 : Int32), z28.1, z28.2.1, z28.2.2))) (fun (k32 : Int32 → Option (Int32 × Int32 × (Nat → Int32) × (Nat → Int32))) => if z27 = i2 then (k32 (1 : Int32)) else (k32 (0 : Int32))))) _
    refine Ok_if ?_ ?_
    · intro h
      have c391 : i2.toInt < z27.toInt := i32lt h
      refine Ok_some ?_
      try dsimp only
      try simp only [tl0, tl1, tl2, tl3, tl4, tl5, tl6, tl8, tl9, tl10, tl50, tl81, tl100, tl1000, tl9999, tlm1, tlm9, tlm50, tl2147483647]
      first | trivial | omega | (repeat' first | assumption | omega | apply And.intro)
    · intro h
      have c392 : z27.toInt ≤ i2.toInt := i32nlt h
      refine Ok_jn (fun k32 wk32 => ?_)
      refine Ok_if ?_ ?_
      · intro h
        have c393 : z27.toInt = i2.toInt := i32eq h
        rw [wk32]
        show Ok (if (1 : Int32) = (1 : Int32) then (some ((1 : Int32), z28.1, z28.2.1, z28.2.2)) else (some ((0 : Int32), z28.1, z28.2.1, z28.2.2))) _
        refine Ok_if ?_ ?_
        · intro h
          refine Ok_some ?_
          try dsimp only
          try simp only [tl0, tl1, tl2, tl3, tl4, tl5, tl6, tl8, tl9, tl10, tl50, tl81, tl100, tl1000, tl9999, tlm1, tlm9, tlm50, tl2147483647]
          first | trivial | omega | (repeat' first | assumption | omega | apply And.intro)
        · intro h
          exact absurd (show (1 : Int32) = (1 : Int32) by decide) h
      · intro h
        have c396 : z27.toInt ≠ i2.toInt := i32ne h
        rw [wk32]
        show Ok (if (0 : Int32) = (1 : Int32) then (some ((1 : Int32), z28.1, z28.2.1, z28.2.2)) else (some ((0 : Int32), z28.1, z28.2.1, z28.2.2))) _
        refine Ok_if ?_ ?_
        · intro h
          exact absurd h (by decide)
        · intro h
          refine Ok_some ?_
          try dsimp only
          try simp only [tl0, tl1, tl2, tl3, tl4, tl5, tl6, tl8, tl9, tl10, tl50, tl81, tl100, tl1000, tl9999, tlm1, tlm9, tlm50, tl2147483647]
          first | trivial | omega | (repeat' first | assumption | omega | apply And.intro)
  · intro h
    have c399 : z28.1.toInt ≠ 0 := i32ne h
    rw [wk29]
    show Ok (if i2 < z27 then (some ((0 : Int32), z28.1, z28.2.1, z28.2.2)) else (jn (fun (i34 : Int32) => if i34 = (0 : Int32) then (some ((1 : Int32), z28.1, z28.2.1, z28.2.2)) else (some ((0 : Int32), z28.1, z28.2.1, z28.2.2))) (fun (k32 : Int32 → Option (Int32 × Int32 × (Nat → Int32) × (Nat → Int32))) => if z27 = i2 then (k32 (1 : Int32)) else (k32 (0 : Int32))))) _
    refine Ok_if ?_ ?_
    · intro h
      have c400 : i2.toInt < z27.toInt := i32lt h
      refine Ok_some ?_
      try dsimp only
      try simp only [tl0, tl1, tl2, tl3, tl4, tl5, tl6, tl8, tl9, tl10, tl50, tl81, tl100, tl1000, tl9999, tlm1, tlm9, tlm50, tl2147483647]
      first | trivial | omega | (repeat' first | assumption | omega | apply And.intro)
    · intro h
      have c401 : z27.toInt ≤ i2.toInt := i32nlt h
      refine Ok_jn (fun k32 wk32 => ?_)
      refine Ok_if ?_ ?_
      · intro h
        have c402 : z27.toInt = i2.toInt := i32eq h
        rw [wk32]
        show Ok (if (1 : Int32) = (0 : Int32) then (some ((1 : Int32), z28.1, z28.2.1, z28.2.2)) else (some ((0 : Int32), z28.1, z28.2.1, z28.2.2))) _
        refine Ok_if ?_ ?_
        · intro h
          exact absurd h (by decide)
        · intro h
          refine Ok_some ?_
          try dsimp only
          try simp only [tl0, tl1, tl2, tl3, tl4, tl5, tl6, tl8, tl9, tl10, tl50, tl81, tl100, tl1000, tl9999, tlm1, tlm9, tlm50, tl2147483647]
          first | trivial | omega | (repeat' first | assumption | omega | apply And.intro)
      · intro h
        have c405 : z27.toInt ≠ i2.toInt := i32ne h
        rw [wk32]
        show Ok (if (0 : Int32) = (0 : Int32) then (some ((1 : Int32), z28.1, z28.2.1, z28.2.2)) else (some ((0 : Int32), z28.1, z28.2.1, z28.2.2))) _
        refine Ok_if ?_ ?_
        · intro h
          refine Ok_some ?_
          try dsimp only
          try simp only [tl0, tl1, tl2, tl3, tl4, tl5, tl6, tl8, tl9, tl10, tl50, tl81, tl100, tl1000, tl9999, tlm1, tlm9, tlm50, tl2147483647]
          first | trivial | omega | (repeat' first | assumption | omega | apply And.intro)
        · intro h
          exact absurd (show (0 : Int32) = (0 : Int32) by decide) h
set_option maxRecDepth 4000 in
theorem ok_X6_areCutsSound (i11 : Int32) (i12 : Int32) (i13 : Int32) (f17 : Nat → Int32) (f19 : Nat → Int32) (i2 : Int32) (h0 : 2 ≤ i11.toInt ∧ i11.toInt ≤ 9) : Ok (fX6_areCutsSound i11 i12 i13 f17 f19 i2) (fun z => True) := by
  unfold fX6_areCutsSound
  refine Ok_bind (ok_X2_valueNow i11 i12 f19 (by first | omega | assumption | (try simp only [tl0, tl1, tl2, tl3, tl4, tl5, tl6, tl8, tl9, tl10, tl50, tl81, tl100, tl1000, tl9999, tlm1, tlm9, tlm50, tl2147483647]; omega))) (fun z20 hz20 => ?_)
  refine Ok_bind (ok_X0_letEachThrough i11 i12 i13 f19 z20 (by first | omega | assumption | (try simp only [tl0, tl1, tl2, tl3, tl4, tl5, tl6, tl8, tl9, tl10, tl50, tl81, tl100, tl1000, tl9999, tlm1, tlm9, tlm50, tl2147483647]; omega))) (fun z21 hz21 => ?_)
  refine Ok_if ?_ ?_
  · intro h
    have c408 : z21.toInt = 0 := i32eq h
    exact Ok_some trivial
  · intro h
    have c409 : z21.toInt ≠ 0 := i32ne h
    refine Ok_bind (ok_X0_nearest i11 i12 i13 f17 (by first | omega | assumption | (try simp only [tl0, tl1, tl2, tl3, tl4, tl5, tl6, tl8, tl9, tl10, tl50, tl81, tl100, tl1000, tl9999, tlm1, tlm9, tlm50, tl2147483647]; omega))) (fun z22 hz22 => ?_)
    refine Ok_bind (ok_X0_isLeastCut i11 i12 i13 f17 z22 i2 (by first | omega | assumption | (try simp only [tl0, tl1, tl2, tl3, tl4, tl5, tl6, tl8, tl9, tl10, tl50, tl81, tl100, tl1000, tl9999, tlm1, tlm9, tlm50, tl2147483647]; omega))) (fun z23 hz23 => ?_)
    try dsimp only at hz23
    try simp only [tl0, tl1, tl2, tl3, tl4, tl5, tl6, tl8, tl9, tl10, tl50, tl81, tl100, tl1000, tl9999, tlm1, tlm9, tlm50, tl2147483647] at hz23
    refine Ok_if ?_ ?_
    · intro h
      have c410 : z23.toInt = 0 := i32eq h
      exact Ok_some trivial
    · intro h
      have c411 : z23.toInt ≠ 0 := i32ne h
      refine Ok_bind (ok_X0_farthest i11 i12 i13 f17 (by first | omega | assumption | (try simp only [tl0, tl1, tl2, tl3, tl4, tl5, tl6, tl8, tl9, tl10, tl50, tl81, tl100, tl1000, tl9999, tlm1, tlm9, tlm50, tl2147483647]; omega))) (fun z24 hz24 => ?_)
      refine Ok_bind (ok_X0_isLeastCut i11 i12 i13 f17 z24 i2 (by first | omega | assumption | (try simp only [tl0, tl1, tl2, tl3, tl4, tl5, tl6, tl8, tl9, tl10, tl50, tl81, tl100, tl1000, tl9999, tlm1, tlm9, tlm50, tl2147483647]; omega))) (fun z25 hz25 => ?_)
      try dsimp only at hz25
      try simp only [tl0, tl1, tl2, tl3, tl4, tl5, tl6, tl8, tl9, tl10, tl50, tl81, tl100, tl1000, tl9999, tlm1, tlm9, tlm50, tl2147483647] at hz25
      refine Ok_if ?_ ?_
      · intro h
        have c412 : z25.toInt = 0 := i32eq h
        exact Ok_some trivial
      · intro h
        have c413 : z25.toInt ≠ 0 := i32ne h
        exact Ok_some trivial
set_option maxRecDepth 4000 in
theorem okL_X6_sumOfWays_L15 (i10 : Int32) (i11 : Int32) (i12 : Int32) (f77 : Nat → Int32)   (g0 : 2 ≤ i10.toInt ∧ i10.toInt ≤ 9)  : ∀ (n : Nat) (i75 : Int32) (i76 : Int32) (f78 : Nat → Int32) (i79 : Int32) (i80 : Int32) (i81 : Int32) (f82 : Nat → Int32), 0 ≤ i81.toInt → i81.toInt ≤ 10 → 0 ≤ i76.toInt → 100 - i76.toInt < n → 0 < n → Ok (LX6_sumOfWays_L15 i10 i11 i12 f77 n i75 i76 f78 i79 i80 i81 f82 ) (fun z => (0 ≤ z.2.2.2.2.2.1.toInt ∧ z.2.2.2.2.2.1.toInt ≤ 10)) := by
  intro n
  induction n with
  | zero => intro i75 i76 f78 i79 i80 i81 f82 v0 v1 v2 hm h0; exact absurd h0 (Nat.lt_irrefl 0)
  | succ n ih =>
    intro i75 i76 f78 i79 i80 i81 f82 v0 v1 v2 hm h0
    show Ok (BX6_sumOfWays_L15 i10 i11 i12 f77 i75 i76 f78 i79 i80 i81 f82 (fun i75 i76 f78 i79 i80 i81 f82 => LX6_sumOfWays_L15 i10 i11 i12 f77 n i75 i76 f78 i79 i80 i81 f82 ) ) _
    unfold BX6_sumOfWays_L15
    refine Ok_if ?_ ?_
    · intro h
      have c414 : 100 ≤ i76.toInt := i32le h
      refine Ok_some ?_
      try dsimp only
      try simp only [tl0, tl1, tl2, tl3, tl4, tl5, tl6, tl8, tl9, tl10, tl50, tl81, tl100, tl1000, tl9999, tlm1, tlm9, tlm50, tl2147483647]
      first | trivial | omega | (repeat' first | assumption | omega | apply And.intro)
    · intro h
      have c415 : i76.toInt < 100 := i32nle h
      refine Ok_bind (ok_X3_find i79 i80 i81 f82 i10 i11 i12 f78 (by first | omega | assumption | (try simp only [tl0, tl1, tl2, tl3, tl4, tl5, tl6, tl8, tl9, tl10, tl50, tl81, tl100, tl1000, tl9999, tlm1, tlm9, tlm50, tl2147483647]; omega)) (by first | omega | assumption | (try simp only [tl0, tl1, tl2, tl3, tl4, tl5, tl6, tl8, tl9, tl10, tl50, tl81, tl100, tl1000, tl9999, tlm1, tlm9, tlm50, tl2147483647]; omega))) (fun z83 hz83 => ?_)
      try dsimp only at hz83
      try simp only [tl0, tl1, tl2, tl3, tl4, tl5, tl6, tl8, tl9, tl10, tl50, tl81, tl100, tl1000, tl9999, tlm1, tlm9, tlm50, tl2147483647] at hz83
      refine Ok_if ?_ ?_
      · intro h
        have c416 : z83.1.toInt = 0 := i32eq h
        refine Ok_some ?_
        try dsimp only
        try simp only [tl0, tl1, tl2, tl3, tl4, tl5, tl6, tl8, tl9, tl10, tl50, tl81, tl100, tl1000, tl9999, tlm1, tlm9, tlm50, tl2147483647]
        first | trivial | omega | (repeat' first | assumption | omega | apply And.intro)
      · intro h
        have c417 : z83.1.toInt ≠ 0 := i32ne h
        refine Ok_bind (ok_X3_takeFrom z83.2.1 z83.2.2.2.1 z83.2.2.2.2 f78 (by first | omega | assumption | (try simp only [tl0, tl1, tl2, tl3, tl4, tl5, tl6, tl8, tl9, tl10, tl50, tl81, tl100, tl1000, tl9999, tlm1, tlm9, tlm50, tl2147483647]; omega))) (fun z84 hz84 => ?_)
        refine Ok_jn (fun k85 wk85 => ?_)
        refine Ok_if ?_ ?_
        · intro h
          have c418 : z83.2.2.1.toInt = 0 := i32eq h
          refine Ok_nm (fun i87 wi87 => ?_)
          have qi87 := i32eq wi87
          rw [wk85]
          show Ok ((fun i75 i76 f78 i79 i80 i81 f82 => LX6_sumOfWays_L15 i10 i11 i12 f77 n i75 i76 f78 i79 i80 i81 f82 ) i87 (i76 + (1 : Int32)) z84 z83.2.1 z83.2.2.1 z83.2.2.2.1 z83.2.2.2.2) _
          try (have e419 := inc_iv (x := i76) (by omega))
          exact ih i87 (i76 + (1 : Int32)) z84 z83.2.1 z83.2.2.1 z83.2.2.2.1 z83.2.2.2.2 (by first | omega | assumption | (try simp only [tl0, tl1, tl2, tl3, tl4, tl5, tl6, tl8, tl9, tl10, tl50, tl81, tl100, tl1000, tl9999, tlm1, tlm9, tlm50, tl2147483647]; omega)) (by first | omega | assumption | (try simp only [tl0, tl1, tl2, tl3, tl4, tl5, tl6, tl8, tl9, tl10, tl50, tl81, tl100, tl1000, tl9999, tlm1, tlm9, tlm50, tl2147483647]; omega)) (by first | omega | assumption | (try simp only [tl0, tl1, tl2, tl3, tl4, tl5, tl6, tl8, tl9, tl10, tl50, tl81, tl100, tl1000, tl9999, tlm1, tlm9, tlm50, tl2147483647]; omega)) (by first | omega | assumption | (try simp only [tl0, tl1, tl2, tl3, tl4, tl5, tl6, tl8, tl9, tl10, tl50, tl81, tl100, tl1000, tl9999, tlm1, tlm9, tlm50, tl2147483647]; omega)) (by first | omega | assumption | (try simp only [tl0, tl1, tl2, tl3, tl4, tl5, tl6, tl8, tl9, tl10, tl50, tl81, tl100, tl1000, tl9999, tlm1, tlm9, tlm50, tl2147483647]; omega))
        · intro h
          have c420 : z83.2.2.1.toInt ≠ 0 := i32ne h
          rw [wk85]
          show Ok ((fun i75 i76 f78 i79 i80 i81 f82 => LX6_sumOfWays_L15 i10 i11 i12 f77 n i75 i76 f78 i79 i80 i81 f82 ) i75 (i76 + (1 : Int32)) z84 z83.2.1 z83.2.2.1 z83.2.2.2.1 z83.2.2.2.2) _
          try (have e421 := inc_iv (x := i76) (by omega))
          exact ih i75 (i76 + (1 : Int32)) z84 z83.2.1 z83.2.2.1 z83.2.2.2.1 z83.2.2.2.2 (by first | omega | assumption | (try simp only [tl0, tl1, tl2, tl3, tl4, tl5, tl6, tl8, tl9, tl10, tl50, tl81, tl100, tl1000, tl9999, tlm1, tlm9, tlm50, tl2147483647]; omega)) (by first | omega | assumption | (try simp only [tl0, tl1, tl2, tl3, tl4, tl5, tl6, tl8, tl9, tl10, tl50, tl81, tl100, tl1000, tl9999, tlm1, tlm9, tlm50, tl2147483647]; omega)) (by first | omega | assumption | (try simp only [tl0, tl1, tl2, tl3, tl4, tl5, tl6, tl8, tl9, tl10, tl50, tl81, tl100, tl1000, tl9999, tlm1, tlm9, tlm50, tl2147483647]; omega)) (by first | omega | assumption | (try simp only [tl0, tl1, tl2, tl3, tl4, tl5, tl6, tl8, tl9, tl10, tl50, tl81, tl100, tl1000, tl9999, tlm1, tlm9, tlm50, tl2147483647]; omega)) (by first | omega | assumption | (try simp only [tl0, tl1, tl2, tl3, tl4, tl5, tl6, tl8, tl9, tl10, tl50, tl81, tl100, tl1000, tl9999, tlm1, tlm9, tlm50, tl2147483647]; omega))
set_option maxRecDepth 4000 in
theorem ok_X6_sumOfWays (i10 : Int32) (i11 : Int32) (i12 : Int32) (f16 : Nat → Int32) (f18 : Nat → Int32) (f25 : Nat → Int32) (f27 : Nat → Int32) (i29 : Int32) (i30 : Int32) (i32 : Int32) (f33 : Nat → Int32) (h0 : 2 ≤ i10.toInt ∧ i10.toInt ≤ 9) (h1 : 0 ≤ i32.toInt ∧ i32.toInt ≤ 10) : Ok (fX6_sumOfWays i10 i11 i12 f16 f18 f25 f27 i29 i30 i32 f33) (fun z => (0 ≤ z.2.2.2.2.2.1.toInt ∧ z.2.2.2.2.2.1.toInt ≤ 10)) := by
  unfold fX6_sumOfWays
  refine Ok_bind (ok_X2_become f25 f27 f16 f18) (fun z34 hz34 => ?_)
  refine Ok_mono (okL_X6_sumOfWays_L15 i10 i11 i12 z34.1 (by first | omega | assumption | (try simp only [tl0, tl1, tl2, tl3, tl4, tl5, tl6, tl8, tl9, tl10, tl50, tl81, tl100, tl1000, tl9999, tlm1, tlm9, tlm50, tl2147483647]; omega)) 102 (0 : Int32) (0 : Int32) z34.2 i29 i30 i32 f33 (by first | omega | assumption | (try simp only [tl0, tl1, tl2, tl3, tl4, tl5, tl6, tl8, tl9, tl10, tl50, tl81, tl100, tl1000, tl9999, tlm1, tlm9, tlm50, tl2147483647]; omega)) (by first | omega | assumption | (try simp only [tl0, tl1, tl2, tl3, tl4, tl5, tl6, tl8, tl9, tl10, tl50, tl81, tl100, tl1000, tl9999, tlm1, tlm9, tlm50, tl2147483647]; omega)) (by first | omega | assumption | (try simp only [tl0, tl1, tl2, tl3, tl4, tl5, tl6, tl8, tl9, tl10, tl50, tl81, tl100, tl1000, tl9999, tlm1, tlm9, tlm50, tl2147483647]; omega)) (by first | omega | assumption | (try simp only [tl0, tl1, tl2, tl3, tl4, tl5, tl6, tl8, tl9, tl10, tl50, tl81, tl100, tl1000, tl9999, tlm1, tlm9, tlm50, tl2147483647]; omega)) (by first | omega | assumption | (try simp only [tl0, tl1, tl2, tl3, tl4, tl5, tl6, tl8, tl9, tl10, tl50, tl81, tl100, tl1000, tl9999, tlm1, tlm9, tlm50, tl2147483647]; omega))) ?_
  intro z hz
  first | exact hz | (simp only [Sx] at *; omega) | (dsimp only at *; omega)
set_option maxRecDepth 4000 in
theorem ok_X6_isSound (i10 : Int32) (i11 : Int32) (i12 : Int32) (f16 : Nat → Int32) (f18 : Nat → Int32) (f25 : Nat → Int32) (f27 : Nat → Int32) (i30 : Int32) (i32 : Int32) (f33 : Nat → Int32) (f34 : Nat → Int32) (i36 : Int32) (i37 : Int32) (i39 : Int32) (f40 : Nat → Int32) (h0 : 2 ≤ i10.toInt ∧ i10.toInt ≤ 9) (h1 : 0 ≤ i30.toInt ∧ i30.toInt ≤ 9) (h2 : 0 ≤ i32.toInt ∧ i32.toInt ≤ 10) (h3 : 0 ≤ i39.toInt ∧ i39.toInt ≤ 10) : Ok (fX6_isSound i10 i11 i12 f16 f18 f25 f27 i30 i32 f33 f34 i36 i37 i39 f40) (fun z => (0 ≤ z.2.2.2.1.toInt ∧ z.2.2.2.1.toInt ≤ 9) ∧ (0 ≤ z.2.2.2.2.1.toInt ∧ z.2.2.2.2.1.toInt ≤ 10) ∧ (0 ≤ z.2.2.2.2.2.2.2.2.2.1.toInt ∧ z.2.2.2.2.2.2.2.2.2.1.toInt ≤ 10)) := by
  unfold fX6_isSound
  refine Ok_bind (ok_X0_leastRoom i10 i11 i12 f16 (by first | omega | assumption | (try simp only [tl0, tl1, tl2, tl3, tl4, tl5, tl6, tl8, tl9, tl10, tl50, tl81, tl100, tl1000, tl9999, tlm1, tlm9, tlm50, tl2147483647]; omega))) (fun z41 hz41 => ?_)
  refine Ok_bind (ok_X2_become f25 f27 f16 f18) (fun z42 hz42 => ?_)
  refine Ok_bind (ok_X6_mostOfTrial i10 i11 i12 z42.1 z42.2 i30 i32 f33 f34 (0 : Int32) (by first | omega | assumption | (try simp only [tl0, tl1, tl2, tl3, tl4, tl5, tl6, tl8, tl9, tl10, tl50, tl81, tl100, tl1000, tl9999, tlm1, tlm9, tlm50, tl2147483647]; omega)) (by first | omega | assumption | (try simp only [tl0, tl1, tl2, tl3, tl4, tl5, tl6, tl8, tl9, tl10, tl50, tl81, tl100, tl1000, tl9999, tlm1, tlm9, tlm50, tl2147483647]; omega)) (by first | omega | assumption | (try simp only [tl0, tl1, tl2, tl3, tl4, tl5, tl6, tl8, tl9, tl10, tl50, tl81, tl100, tl1000, tl9999, tlm1, tlm9, tlm50, tl2147483647]; omega))) (fun z43 hz43 => ?_)
  try dsimp only at hz43
  try simp only [tl0, tl1, tl2, tl3, tl4, tl5, tl6, tl8, tl9, tl10, tl50, tl81, tl100, tl1000, tl9999, tlm1, tlm9, tlm50, tl2147483647] at hz43
  refine Ok_bind (ok_X6_mostOfTrial i10 i11 i12 z42.1 z43.2.1 z43.2.2.1 z43.2.2.2.1 z43.2.2.2.2.1 z43.2.2.2.2.2 (1 : Int32) (by first | omega | assumption | (try simp only [tl0, tl1, tl2, tl3, tl4, tl5, tl6, tl8, tl9, tl10, tl50, tl81, tl100, tl1000, tl9999, tlm1, tlm9, tlm50, tl2147483647]; omega)) (by first | omega | assumption | (try simp only [tl0, tl1, tl2, tl3, tl4, tl5, tl6, tl8, tl9, tl10, tl50, tl81, tl100, tl1000, tl9999, tlm1, tlm9, tlm50, tl2147483647]; omega)) (by first | omega | assumption | (try simp only [tl0, tl1, tl2, tl3, tl4, tl5, tl6, tl8, tl9, tl10, tl50, tl81, tl100, tl1000, tl9999, tlm1, tlm9, tlm50, tl2147483647]; omega))) (fun z44 hz44 => ?_)
  try dsimp only at hz44
  try simp only [tl0, tl1, tl2, tl3, tl4, tl5, tl6, tl8, tl9, tl10, tl50, tl81, tl100, tl1000, tl9999, tlm1, tlm9, tlm50, tl2147483647] at hz44
  refine Ok_bind (ok_X2_isFlowLet i10 f16 f18 (by first | omega | assumption | (try simp only [tl0, tl1, tl2, tl3, tl4, tl5, tl6, tl8, tl9, tl10, tl50, tl81, tl100, tl1000, tl9999, tlm1, tlm9, tlm50, tl2147483647]; omega))) (fun z45 hz45 => ?_)
  refine Ok_if ?_ ?_
  · intro h
    have c422 : z45.toInt = 0 := i32eq h
    refine Ok_some ?_
    try dsimp only
    try simp only [tl0, tl1, tl2, tl3, tl4, tl5, tl6, tl8, tl9, tl10, tl50, tl81, tl100, tl1000, tl9999, tlm1, tlm9, tlm50, tl2147483647]
    first | trivial | omega | (repeat' first | assumption | omega | apply And.intro)
  · intro h
    have c423 : z45.toInt ≠ 0 := i32ne h
    refine Ok_bind (ok_X2_isKept i10 i11 i12 f18 (by first | omega | assumption | (try simp only [tl0, tl1, tl2, tl3, tl4, tl5, tl6, tl8, tl9, tl10, tl50, tl81, tl100, tl1000, tl9999, tlm1, tlm9, tlm50, tl2147483647]; omega))) (fun z46 hz46 => ?_)
    refine Ok_if ?_ ?_
    · intro h
      have c424 : z46.toInt = 0 := i32eq h
      refine Ok_some ?_
      try dsimp only
      try simp only [tl0, tl1, tl2, tl3, tl4, tl5, tl6, tl8, tl9, tl10, tl50, tl81, tl100, tl1000, tl9999, tlm1, tlm9, tlm50, tl2147483647]
      first | trivial | omega | (repeat' first | assumption | omega | apply And.intro)
    · intro h
      have c425 : z46.toInt ≠ 0 := i32ne h
      refine Ok_bind (ok_X6_isValueSound i10 i11 i12 f16 f18 z44.2.2.2.2.1 z44.2.2.2.2.2 z43.1 (by first | omega | assumption | (try simp only [tl0, tl1, tl2, tl3, tl4, tl5, tl6, tl8, tl9, tl10, tl50, tl81, tl100, tl1000, tl9999, tlm1, tlm9, tlm50, tl2147483647]; omega))) (fun z47 hz47 => ?_)
      try dsimp only at hz47
      try simp only [tl0, tl1, tl2, tl3, tl4, tl5, tl6, tl8, tl9, tl10, tl50, tl81, tl100, tl1000, tl9999, tlm1, tlm9, tlm50, tl2147483647] at hz47
      refine Ok_if ?_ ?_
      · intro h
        have c426 : z47.1.toInt = 0 := i32eq h
        refine Ok_some ?_
        try dsimp only
        try simp only [tl0, tl1, tl2, tl3, tl4, tl5, tl6, tl8, tl9, tl10, tl50, tl81, tl100, tl1000, tl9999, tlm1, tlm9, tlm50, tl2147483647]
        first | trivial | omega | (repeat' first | assumption | omega | apply And.intro)
      · intro h
        have c427 : z47.1.toInt ≠ 0 := i32ne h
        refine Ok_if ?_ ?_
        · intro h
          have c428 : z43.1.toInt = z41.toInt := i32eq h
          refine Ok_if ?_ ?_
          · intro h
            have c429 : z44.1.toInt = z41.toInt := i32eq h
            refine Ok_bind (ok_X6_areCutsSound i10 i11 i12 f16 f18 z41 (by first | omega | assumption | (try simp only [tl0, tl1, tl2, tl3, tl4, tl5, tl6, tl8, tl9, tl10, tl50, tl81, tl100, tl1000, tl9999, tlm1, tlm9, tlm50, tl2147483647]; omega))) (fun z48 hz48 => ?_)
            refine Ok_if ?_ ?_
            · intro h
              have c430 : z48.toInt = 0 := i32eq h
              refine Ok_some ?_
              try dsimp only
              try simp only [tl0, tl1, tl2, tl3, tl4, tl5, tl6, tl8, tl9, tl10, tl50, tl81, tl100, tl1000, tl9999, tlm1, tlm9, tlm50, tl2147483647]
              first | trivial | omega | (repeat' first | assumption | omega | apply And.intro)
            · intro h
              have c431 : z48.toInt ≠ 0 := i32ne h
              refine Ok_bind (ok_X6_sumOfWays i10 i11 i12 f16 f18 z42.1 z44.2.1 i36 i37 i39 f40 (by first | omega | assumption | (try simp only [tl0, tl1, tl2, tl3, tl4, tl5, tl6, tl8, tl9, tl10, tl50, tl81, tl100, tl1000, tl9999, tlm1, tlm9, tlm50, tl2147483647]; omega)) (by first | omega | assumption | (try simp only [tl0, tl1, tl2, tl3, tl4, tl5, tl6, tl8, tl9, tl10, tl50, tl81, tl100, tl1000, tl9999, tlm1, tlm9, tlm50, tl2147483647]; omega))) (fun z49 hz49 => ?_)
              try dsimp only at hz49
              try simp only [tl0, tl1, tl2, tl3, tl4, tl5, tl6, tl8, tl9, tl10, tl50, tl81, tl100, tl1000, tl9999, tlm1, tlm9, tlm50, tl2147483647] at hz49
              refine Ok_bind (ok_X2_valueNow i10 i11 f18 (by first | omega | assumption | (try simp only [tl0, tl1, tl2, tl3, tl4, tl5, tl6, tl8, tl9, tl10, tl50, tl81, tl100, tl1000, tl9999, tlm1, tlm9, tlm50, tl2147483647]; omega))) (fun z50 hz50 => ?_)
              refine Ok_if ?_ ?_
              · intro h
                have c432 : z49.1.toInt = z50.toInt := i32eq h
                refine Ok_some ?_
                try dsimp only
                try simp only [tl0, tl1, tl2, tl3, tl4, tl5, tl6, tl8, tl9, tl10, tl50, tl81, tl100, tl1000, tl9999, tlm1, tlm9, tlm50, tl2147483647]
                first | trivial | omega | (repeat' first | assumption | omega | apply And.intro)
              · intro h
                have c433 : z49.1.toInt ≠ z50.toInt := i32ne h
                refine Ok_some ?_
                try dsimp only
                try simp only [tl0, tl1, tl2, tl3, tl4, tl5, tl6, tl8, tl9, tl10, tl50, tl81, tl100, tl1000, tl9999, tlm1, tlm9, tlm50, tl2147483647]
                first | trivial | omega | (repeat' first | assumption | omega | apply And.intro)
          · intro h
            have c434 : z44.1.toInt ≠ z41.toInt := i32ne h
            refine Ok_some ?_
            try dsimp only
            try simp only [tl0, tl1, tl2, tl3, tl4, tl5, tl6, tl8, tl9, tl10, tl50, tl81, tl100, tl1000, tl9999, tlm1, tlm9, tlm50, tl2147483647]
            first | trivial | omega | (repeat' first | assumption | omega | apply And.intro)
        · intro h
          have c435 : z43.1.toInt ≠ z41.toInt := i32ne h
          refine Ok_some ?_
          try dsimp only
          try simp only [tl0, tl1, tl2, tl3, tl4, tl5, tl6, tl8, tl9, tl10, tl50, tl81, tl100, tl1000, tl9999, tlm1, tlm9, tlm50, tl2147483647]
          first | trivial | omega | (repeat' first | assumption | omega | apply And.intro)
set_option maxRecDepth 4000 in
theorem okL_X6_withPlace_L6 (i12 : Int32) (f18 : Nat → Int32) (f20 : Nat → Int32) (i3 : Int32) {P : (Int64 × (Nat → Int32)) → Prop} {k1 : Int64 → Option (Int64 × (Nat → Int32))} (g0 : 2 ≤ i12.toInt ∧ i12.toInt ≤ 9) (g1 : 0 ≤ i3.toInt) (g2 : i3.toInt < i12.toInt) (g3 : 0 ≤ i3.toInt) (g4 : i3.toInt < i12.toInt) (hk1 : ∀ (y1 : Int64), Ok (k1 y1) P) : ∀ (n : Nat) (l51 : Int64) (i52 : Int32), 0 ≤ i52.toInt → 3 - i52.toInt + 1 < n → 0 < n → Ok (LX6_withPlace_L6 i12 f18 f20 i3 n l51 i52 k1) P := by
  intro n
  induction n with
  | zero => intro l51 i52 v0 hm h0; exact absurd h0 (Nat.lt_irrefl 0)
  | succ n ih =>
    intro l51 i52 v0 hm h0
    show Ok (BX6_withPlace_L6 i12 f18 f20 i3 l51 i52 (fun l51 i52 => LX6_withPlace_L6 i12 f18 f20 i3 n l51 i52 k1) k1) _
    unfold BX6_withPlace_L6
    refine Ok_if ?_ ?_
    · intro h
      have c436 : 3 < i52.toInt := i32lt h
      exact hk1 l51
    · intro h
      have c437 : i52.toInt ≤ 3 := i32nlt h
      refine Ok_x0 (ok_X6_ofPlace i12 f18 f20 i3 i52 (by first | omega | assumption | (try simp only [tl0, tl1, tl2, tl3, tl4, tl5, tl6, tl8, tl9, tl10, tl50, tl81, tl100, tl1000, tl9999, tlm1, tlm9, tlm50, tl2147483647]; omega))) (by first | omega | assumption | (try simp only [tl0, tl1, tl2, tl3, tl4, tl5, tl6, tl8, tl9, tl10, tl50, tl81, tl100, tl1000, tl9999, tlm1, tlm9, tlm50, tl2147483647]; omega)) (fun z53 hz53 => ?_)
      refine Ok_nm (fun l54 wl54 => ?_)
      try (have e438 := inc_iv (x := i52) (by omega))
      exact ih l54 (i52 + (1 : Int32)) (by first | omega | assumption | (try simp only [tl0, tl1, tl2, tl3, tl4, tl5, tl6, tl8, tl9, tl10, tl50, tl81, tl100, tl1000, tl9999, tlm1, tlm9, tlm50, tl2147483647]; omega)) (by first | omega | assumption | (try simp only [tl0, tl1, tl2, tl3, tl4, tl5, tl6, tl8, tl9, tl10, tl50, tl81, tl100, tl1000, tl9999, tlm1, tlm9, tlm50, tl2147483647]; omega)) (by first | omega | assumption | (try simp only [tl0, tl1, tl2, tl3, tl4, tl5, tl6, tl8, tl9, tl10, tl50, tl81, tl100, tl1000, tl9999, tlm1, tlm9, tlm50, tl2147483647]; omega))
set_option maxRecDepth 4000 in
theorem okL_X6_withPlace_L53 (i12 : Int32) (f18 : Nat → Int32) (f20 : Nat → Int32) (i3 : Int32) (f88 : Nat → Int32)   (g0 : 2 ≤ i12.toInt ∧ i12.toInt ≤ 9) (g1 : 0 ≤ i3.toInt) (g2 : i3.toInt < i12.toInt) (g3 : 0 ≤ i3.toInt) (g4 : i3.toInt < i12.toInt)  : ∀ (n : Nat) (l86 : Int64) (i87 : Int32), 0 ≤ i87.toInt → i12.toInt - i87.toInt < n → 0 < n → Ok (LX6_withPlace_L53 i12 f18 f20 i3 f88 n l86 i87 ) (fun z => True) := by
  intro n
  induction n with
  | zero => intro l86 i87 v0 hm h0; exact absurd h0 (Nat.lt_irrefl 0)
  | succ n ih =>
    intro l86 i87 v0 hm h0
    show Ok (BX6_withPlace_L53 i12 f18 f20 i3 f88 l86 i87 (fun l86 i87 => LX6_withPlace_L53 i12 f18 f20 i3 f88 n l86 i87 ) ) _
    unfold BX6_withPlace_L53
    refine Ok_if ?_ ?_
    · intro h
      have c439 : i12.toInt ≤ i87.toInt := i32le h
      exact Ok_some trivial
    · intro h
      have c440 : i87.toInt < i12.toInt := i32nle h
      refine Ok_x0 (ok_X6_pair i12 f18 f20 i3 i87 (0 : Int32) (by first | omega | assumption | (try simp only [tl0, tl1, tl2, tl3, tl4, tl5, tl6, tl8, tl9, tl10, tl50, tl81, tl100, tl1000, tl9999, tlm1, tlm9, tlm50, tl2147483647]; omega))) (by first | omega | assumption | (try simp only [tl0, tl1, tl2, tl3, tl4, tl5, tl6, tl8, tl9, tl10, tl50, tl81, tl100, tl1000, tl9999, tlm1, tlm9, tlm50, tl2147483647]; omega)) (fun z89 hz89 => ?_)
      refine Ok_nm (fun l90 wl90 => ?_)
      refine Ok_x0 (ok_X6_pair i12 f18 f20 i3 i87 (1 : Int32) (by first | omega | assumption | (try simp only [tl0, tl1, tl2, tl3, tl4, tl5, tl6, tl8, tl9, tl10, tl50, tl81, tl100, tl1000, tl9999, tlm1, tlm9, tlm50, tl2147483647]; omega))) (by first | omega | assumption | (try simp only [tl0, tl1, tl2, tl3, tl4, tl5, tl6, tl8, tl9, tl10, tl50, tl81, tl100, tl1000, tl9999, tlm1, tlm9, tlm50, tl2147483647]; omega)) (fun z91 hz91 => ?_)
      refine Ok_nm (fun l92 wl92 => ?_)
      try (have e441 := inc_iv (x := i87) (by omega))
      exact ih l92 (i87 + (1 : Int32)) (by first | omega | assumption | (try simp only [tl0, tl1, tl2, tl3, tl4, tl5, tl6, tl8, tl9, tl10, tl50, tl81, tl100, tl1000, tl9999, tlm1, tlm9, tlm50, tl2147483647]; omega)) (by first | omega | assumption | (try simp only [tl0, tl1, tl2, tl3, tl4, tl5, tl6, tl8, tl9, tl10, tl50, tl81, tl100, tl1000, tl9999, tlm1, tlm9, tlm50, tl2147483647]; omega)) (by first | omega | assumption | (try simp only [tl0, tl1, tl2, tl3, tl4, tl5, tl6, tl8, tl9, tl10, tl50, tl81, tl100, tl1000, tl9999, tlm1, tlm9, tlm50, tl2147483647]; omega))
set_option maxRecDepth 4000 in
theorem ok_X6_withPlace (i12 : Int32) (i13 : Int32) (f18 : Nat → Int32) (f20 : Nat → Int32) (f24 : Nat → Int32) (l2 : Int64) (i3 : Int32) (h0 : 2 ≤ i12.toInt ∧ i12.toInt ≤ 9) (h1 : 0 ≤ i3.toInt) (h2 : i3.toInt < i12.toInt) : Ok (fX6_withPlace i12 i13 f18 f20 f24 l2 i3) (fun z => True) := by
  unfold fX6_withPlace
  refine okL_X6_withPlace_L6 i12 f18 f20 i3 (by first | omega | assumption | (try simp only [tl0, tl1, tl2, tl3, tl4, tl5, tl6, tl8, tl9, tl10, tl50, tl81, tl100, tl1000, tl9999, tlm1, tlm9, tlm50, tl2147483647]; omega)) (by first | omega | assumption | (try simp only [tl0, tl1, tl2, tl3, tl4, tl5, tl6, tl8, tl9, tl10, tl50, tl81, tl100, tl1000, tl9999, tlm1, tlm9, tlm50, tl2147483647]; omega)) (by first | omega | assumption | (try simp only [tl0, tl1, tl2, tl3, tl4, tl5, tl6, tl8, tl9, tl10, tl50, tl81, tl100, tl1000, tl9999, tlm1, tlm9, tlm50, tl2147483647]; omega)) (by first | omega | assumption | (try simp only [tl0, tl1, tl2, tl3, tl4, tl5, tl6, tl8, tl9, tl10, tl50, tl81, tl100, tl1000, tl9999, tlm1, tlm9, tlm50, tl2147483647]; omega)) (by first | omega | assumption | (try simp only [tl0, tl1, tl2, tl3, tl4, tl5, tl6, tl8, tl9, tl10, tl50, tl81, tl100, tl1000, tl9999, tlm1, tlm9, tlm50, tl2147483647]; omega)) ?_ 12 l2 (0 : Int32) (by first | omega | assumption | (try simp only [tl0, tl1, tl2, tl3, tl4, tl5, tl6, tl8, tl9, tl10, tl50, tl81, tl100, tl1000, tl9999, tlm1, tlm9, tlm50, tl2147483647]; omega)) (by first | omega | assumption | (try simp only [tl0, tl1, tl2, tl3, tl4, tl5, tl6, tl8, tl9, tl10, tl50, tl81, tl100, tl1000, tl9999, tlm1, tlm9, tlm50, tl2147483647]; omega)) (by first | omega | assumption | (try simp only [tl0, tl1, tl2, tl3, tl4, tl5, tl6, tl8, tl9, tl10, tl50, tl81, tl100, tl1000, tl9999, tlm1, tlm9, tlm50, tl2147483647]; omega))
  intro l55
  show Ok (x0 (fX6_layer i12 i13 f18 f20 f24 i3) (fun z56 => nm ((l55 * (31 : Int64)) + z56.1.toInt64) (fun (l57 : Int64) => LX6_withPlace_L53  i12 f18 f20 i3 z56.2 12 l57 (0 : Int32) ))) _
  refine Ok_x0 (ok_X6_layer i12 i13 f18 f20 f24 i3 (by first | omega | assumption | (try simp only [tl0, tl1, tl2, tl3, tl4, tl5, tl6, tl8, tl9, tl10, tl50, tl81, tl100, tl1000, tl9999, tlm1, tlm9, tlm50, tl2147483647]; omega))) (by first | omega | assumption | (try simp only [tl0, tl1, tl2, tl3, tl4, tl5, tl6, tl8, tl9, tl10, tl50, tl81, tl100, tl1000, tl9999, tlm1, tlm9, tlm50, tl2147483647]; omega)) (fun z56 hz56 => ?_)
  refine Ok_nm (fun l57 wl57 => ?_)
  refine Ok_mono (okL_X6_withPlace_L53 i12 f18 f20 i3 z56.2 (by first | omega | assumption | (try simp only [tl0, tl1, tl2, tl3, tl4, tl5, tl6, tl8, tl9, tl10, tl50, tl81, tl100, tl1000, tl9999, tlm1, tlm9, tlm50, tl2147483647]; omega)) (by first | omega | assumption | (try simp only [tl0, tl1, tl2, tl3, tl4, tl5, tl6, tl8, tl9, tl10, tl50, tl81, tl100, tl1000, tl9999, tlm1, tlm9, tlm50, tl2147483647]; omega)) (by first | omega | assumption | (try simp only [tl0, tl1, tl2, tl3, tl4, tl5, tl6, tl8, tl9, tl10, tl50, tl81, tl100, tl1000, tl9999, tlm1, tlm9, tlm50, tl2147483647]; omega)) (by first | omega | assumption | (try simp only [tl0, tl1, tl2, tl3, tl4, tl5, tl6, tl8, tl9, tl10, tl50, tl81, tl100, tl1000, tl9999, tlm1, tlm9, tlm50, tl2147483647]; omega)) (by first | omega | assumption | (try simp only [tl0, tl1, tl2, tl3, tl4, tl5, tl6, tl8, tl9, tl10, tl50, tl81, tl100, tl1000, tl9999, tlm1, tlm9, tlm50, tl2147483647]; omega)) 12 l57 (0 : Int32) (by first | omega | assumption | (try simp only [tl0, tl1, tl2, tl3, tl4, tl5, tl6, tl8, tl9, tl10, tl50, tl81, tl100, tl1000, tl9999, tlm1, tlm9, tlm50, tl2147483647]; omega)) (by first | omega | assumption | (try simp only [tl0, tl1, tl2, tl3, tl4, tl5, tl6, tl8, tl9, tl10, tl50, tl81, tl100, tl1000, tl9999, tlm1, tlm9, tlm50, tl2147483647]; omega)) (by first | omega | assumption | (try simp only [tl0, tl1, tl2, tl3, tl4, tl5, tl6, tl8, tl9, tl10, tl50, tl81, tl100, tl1000, tl9999, tlm1, tlm9, tlm50, tl2147483647]; omega))) ?_
  intro z hz
  first | exact hz | (simp only [Sx] at *; omega) | (dsimp only at *; omega)
