/-! by program: calls over the second net, whose places are none at first -/
set_option maxRecDepth 4000 in
theorem ok2_X6_would (i13 : Int32) (i14 : Int32) (i15 : Int32) (f19 : Nat → Int32) (f21 : Nat → Int32) (i22 : Int32) (i23 : Int32) (i24 : Int32) (f28 : Nat → Int32) (f30 : Nat → Int32) (i33 : Int32) (i35 : Int32) (f36 : Nat → Int32) (f37 : Nat → Int32) (i2 : Int32) (i3 : Int32) (i4 : Int32) (h0 : 2 ≤ i13.toInt ∧ i13.toInt ≤ 9) (h1 : 0 ≤ i33.toInt ∧ i33.toInt ≤ 9) (h2 : 0 ≤ i35.toInt ∧ i35.toInt ≤ 10) : Ok (fX6_would i13 i14 i15 f19 f21 i22 i23 i24 f28 f30 i33 i35 f36 f37 i2 i3 i4) (Sx ["java/lang/IndexOutOfBoundsException", "java/lang/IllegalArgumentException"] (False) (fun z => (0 ≤ z.2.2.2.2.2.2.1.toInt ∧ z.2.2.2.2.2.2.1.toInt ≤ 9) ∧ (0 ≤ z.2.2.2.2.2.2.2.1.toInt ∧ z.2.2.2.2.2.2.2.1.toInt ≤ 10))) := by
  unfold fX6_would
  refine Ok_xb (ok_X6_needPair i13 i2 i3 (by first | omega | assumption | (try simp only [tl0, tl1, tl2, tl3, tl4, tl5, tl6, tl8, tl9, tl10, tl50, tl81, tl100, tl1000, tl9999, tlm1, tlm9, tlm50, tl2147483647]; omega))) (fun e he hn => ⟨(by simp only [List.mem_cons, List.not_mem_nil, or_false] at he ⊢; first | exact he | exact Or.inl he | exact Or.inr he | (rcases he with he | he <;> simp [he])), id⟩) (fun z38 hz38 => ?_)
  refine Ok_xb (ok_X6_needWithin i4 (-1 : Int32) (1 : Int32)) (fun e he hn => ⟨(by simp only [List.mem_cons, List.not_mem_nil, or_false] at he ⊢; first | exact he | exact Or.inl he | exact Or.inr he | (rcases he with he | he <;> simp [he])), id⟩) (fun z39 hz39 => ?_)
  try dsimp only at hz39
  try simp only [tl0, tl1, tl2, tl3, tl4, tl5, tl6, tl8, tl9, tl10, tl50, tl81, tl100, tl1000, tl9999, tlm1, tlm9, tlm50, tl2147483647] at hz39
  refine Ok_bind (ok_X1_at f19 i2 i3) (fun z40 hz40 => ?_)
  refine Ok_nm (fun i41 wi41 => ?_)
  have qi41 := i32eq wi41
  refine Ok_if ?_ ?_
  · intro h
    have c13 : 0 ≤ i41.toInt := i32le h
    refine Ok_bind (ok_X2_become f28 f30 f19 f21) (fun z42 hz42 => ?_)
    refine Ok_bind (ok_X1_put z42.1 i2 i3 i41) (fun z43 hz43 => ?_)
    refine Ok_bind (ok_X6_mostOfTrial i13 i14 i15 z43 z42.2 i33 i35 f36 f37 (0 : Int32) (by first | omega | assumption | (try simp only [tl0, tl1, tl2, tl3, tl4, tl5, tl6, tl8, tl9, tl10, tl50, tl81, tl100, tl1000, tl9999, tlm1, tlm9, tlm50, tl2147483647]; omega)) (by first | omega | assumption | (try simp only [tl0, tl1, tl2, tl3, tl4, tl5, tl6, tl8, tl9, tl10, tl50, tl81, tl100, tl1000, tl9999, tlm1, tlm9, tlm50, tl2147483647]; omega)) (by first | omega | assumption | (try simp only [tl0, tl1, tl2, tl3, tl4, tl5, tl6, tl8, tl9, tl10, tl50, tl81, tl100, tl1000, tl9999, tlm1, tlm9, tlm50, tl2147483647]; omega))) (fun z44 hz44 => ?_)
    try dsimp only at hz44
    try simp only [tl0, tl1, tl2, tl3, tl4, tl5, tl6, tl8, tl9, tl10, tl50, tl81, tl100, tl1000, tl9999, tlm1, tlm9, tlm50, tl2147483647] at hz44
    refine Ok_some ?_
    simp only [Sx]
    try simp only [tl0, tl1, tl2, tl3, tl4, tl5, tl6, tl8, tl9, tl10, tl50, tl81, tl100, tl1000, tl9999, tlm1, tlm9, tlm50, tl2147483647]
    first | trivial | omega | (simp; done) | (simp; omega) | (repeat' first | assumption | omega | apply And.intro)
  · intro h
    have c14 : i41.toInt < 0 := i32nle h
    refine Ok_some ?_
    simp only [Sx]
    try simp only [tl0, tl1, tl2, tl3, tl4, tl5, tl6, tl8, tl9, tl10, tl50, tl81, tl100, tl1000, tl9999, tlm1, tlm9, tlm50, tl2147483647]
    first | trivial | omega | (simp; done) | (simp; omega) | (repeat' first | assumption | omega | apply And.intro)
set_option maxRecDepth 4000 in
theorem ok2_L_most (i12 : Int32) (i13 : Int32) (i14 : Int32) (f18 : Nat → Int32) (f20 : Nat → Int32) (i21 : Int32) (i22 : Int32) (i23 : Int32) (f27 : Nat → Int32) (f29 : Nat → Int32) (i32 : Int32) (i34 : Int32) (f35 : Nat → Int32) (f36 : Nat → Int32) (l37 : Int64) (i2 : Int32) (h0 : 2 ≤ i12.toInt ∧ i12.toInt ≤ 9) (h1 : 0 ≤ i32.toInt ∧ i32.toInt ≤ 9) (h2 : 0 ≤ i34.toInt ∧ i34.toInt ≤ 10) : Ok (fL_most i12 i13 i14 f18 f20 i21 i22 i23 f27 f29 i32 i34 f35 f36 l37 i2) (fun z => (0 ≤ z.2.2.2.2.2.2.1.toInt ∧ z.2.2.2.2.2.2.1.toInt ≤ 9) ∧ (0 ≤ z.2.2.2.2.2.2.2.1.toInt ∧ z.2.2.2.2.2.2.2.1.toInt ≤ 10)) := by
  unfold fL_most
  refine Ok_xc (ok_X6_most i12 i13 i14 f18 f20 f27 f29 i32 i34 f35 f36 i2 (by first | omega | assumption | (try simp only [tl0, tl1, tl2, tl3, tl4, tl5, tl6, tl8, tl9, tl10, tl50, tl81, tl100, tl1000, tl9999, tlm1, tlm9, tlm50, tl2147483647]; omega)) (by first | omega | assumption | (try simp only [tl0, tl1, tl2, tl3, tl4, tl5, tl6, tl8, tl9, tl10, tl50, tl81, tl100, tl1000, tl9999, tlm1, tlm9, tlm50, tl2147483647]; omega)) (by first | omega | assumption | (try simp only [tl0, tl1, tl2, tl3, tl4, tl5, tl6, tl8, tl9, tl10, tl50, tl81, tl100, tl1000, tl9999, tlm1, tlm9, tlm50, tl2147483647]; omega))) ?_ (fun z39 hz39 => ?_)
  · intro en hen hn
    simp only [List.mem_cons, List.not_mem_nil, or_false] at hen
    subst hen
    rw [if_pos rfl]
    refine Ok_some ?_
    try dsimp only
    try simp only [tl0, tl1, tl2, tl3, tl4, tl5, tl6, tl8, tl9, tl10, tl50, tl81, tl100, tl1000, tl9999, tlm1, tlm9, tlm50, tl2147483647]
    first | trivial | omega | (simp; done) | (simp; omega) | (repeat' first | assumption | omega | apply And.intro)
  · try dsimp only at hz39
    try simp only [tl0, tl1, tl2, tl3, tl4, tl5, tl6, tl8, tl9, tl10, tl50, tl81, tl100, tl1000, tl9999, tlm1, tlm9, tlm50, tl2147483647] at hz39
    refine Ok_some ?_
    try dsimp only
    try simp only [tl0, tl1, tl2, tl3, tl4, tl5, tl6, tl8, tl9, tl10, tl50, tl81, tl100, tl1000, tl9999, tlm1, tlm9, tlm50, tl2147483647]
    first | trivial | omega | (simp; done) | (simp; omega) | (repeat' first | assumption | omega | apply And.intro)
set_option maxRecDepth 4000 in
theorem ok2_L_would (i14 : Int32) (i15 : Int32) (i16 : Int32) (f20 : Nat → Int32) (f22 : Nat → Int32) (i23 : Int32) (i24 : Int32) (i25 : Int32) (f29 : Nat → Int32) (f31 : Nat → Int32) (i34 : Int32) (i36 : Int32) (f37 : Nat → Int32) (f38 : Nat → Int32) (l39 : Int64) (i2 : Int32) (i3 : Int32) (i4 : Int32) (h0 : 2 ≤ i14.toInt ∧ i14.toInt ≤ 9) (h1 : 0 ≤ i34.toInt ∧ i34.toInt ≤ 9) (h2 : 0 ≤ i36.toInt ∧ i36.toInt ≤ 10) : Ok (fL_would i14 i15 i16 f20 f22 i23 i24 i25 f29 f31 i34 i36 f37 f38 l39 i2 i3 i4) (fun z => (0 ≤ z.2.2.2.2.2.2.1.toInt ∧ z.2.2.2.2.2.2.1.toInt ≤ 9) ∧ (0 ≤ z.2.2.2.2.2.2.2.1.toInt ∧ z.2.2.2.2.2.2.2.1.toInt ≤ 10)) := by
  unfold fL_would
  refine Ok_xc (ok2_X6_would i14 i15 i16 f20 f22 i23 i24 i25 f29 f31 i34 i36 f37 f38 i2 i3 i4 (by first | omega | assumption | (try simp only [tl0, tl1, tl2, tl3, tl4, tl5, tl6, tl8, tl9, tl10, tl50, tl81, tl100, tl1000, tl9999, tlm1, tlm9, tlm50, tl2147483647]; omega)) (by first | omega | assumption | (try simp only [tl0, tl1, tl2, tl3, tl4, tl5, tl6, tl8, tl9, tl10, tl50, tl81, tl100, tl1000, tl9999, tlm1, tlm9, tlm50, tl2147483647]; omega)) (by first | omega | assumption | (try simp only [tl0, tl1, tl2, tl3, tl4, tl5, tl6, tl8, tl9, tl10, tl50, tl81, tl100, tl1000, tl9999, tlm1, tlm9, tlm50, tl2147483647]; omega))) ?_ (fun z41 hz41 => ?_)
  · intro en hen hn
    simp only [List.mem_cons, List.not_mem_nil, or_false] at hen
    rcases hen with rfl | rfl
    · rw [if_pos rfl]
      refine Ok_some ?_
      try dsimp only
      try simp only [tl0, tl1, tl2, tl3, tl4, tl5, tl6, tl8, tl9, tl10, tl50, tl81, tl100, tl1000, tl9999, tlm1, tlm9, tlm50, tl2147483647]
      first | trivial | omega | (simp; done) | (simp; omega) | (repeat' first | assumption | omega | apply And.intro)
    · rw [if_neg (by decide)]
      rw [if_pos rfl]
      refine Ok_some ?_
      try dsimp only
      try simp only [tl0, tl1, tl2, tl3, tl4, tl5, tl6, tl8, tl9, tl10, tl50, tl81, tl100, tl1000, tl9999, tlm1, tlm9, tlm50, tl2147483647]
      first | trivial | omega | (simp; done) | (simp; omega) | (repeat' first | assumption | omega | apply And.intro)
  · try dsimp only at hz41
    try simp only [tl0, tl1, tl2, tl3, tl4, tl5, tl6, tl8, tl9, tl10, tl50, tl81, tl100, tl1000, tl9999, tlm1, tlm9, tlm50, tl2147483647] at hz41
    refine Ok_some ?_
    try dsimp only
    try simp only [tl0, tl1, tl2, tl3, tl4, tl5, tl6, tl8, tl9, tl10, tl50, tl81, tl100, tl1000, tl9999, tlm1, tlm9, tlm50, tl2147483647]
    first | trivial | omega | (simp; done) | (simp; omega) | (repeat' first | assumption | omega | apply And.intro)
set_option maxRecDepth 4000 in
theorem ok2_L_between (i13 : Int32) (f19 : Nat → Int32) (f21 : Nat → Int32) (i22 : Int32) (i23 : Int32) (i24 : Int32) (f28 : Nat → Int32) (f30 : Nat → Int32) (i33 : Int32) (i35 : Int32) (f36 : Nat → Int32) (f37 : Nat → Int32) (l38 : Int64) (i2 : Int32) (i3 : Int32) (h0 : 2 ≤ i13.toInt ∧ i13.toInt ≤ 9) (h1 : 0 ≤ i33.toInt ∧ i33.toInt ≤ 9) (h2 : 0 ≤ i35.toInt ∧ i35.toInt ≤ 10) : Ok (fL_between i13 f19 f21 i22 i23 i24 f28 f30 i33 i35 f36 f37 l38 i2 i3) (fun z => (0 ≤ z.2.2.2.2.2.2.1.toInt ∧ z.2.2.2.2.2.2.1.toInt ≤ 9) ∧ (0 ≤ z.2.2.2.2.2.2.2.1.toInt ∧ z.2.2.2.2.2.2.2.1.toInt ≤ 10)) := by
  unfold fL_between
  refine Ok_xc (ok_X6_between i13 f19 f21 f28 f30 i33 i35 f36 f37 i2 i3 (by first | omega | assumption | (try simp only [tl0, tl1, tl2, tl3, tl4, tl5, tl6, tl8, tl9, tl10, tl50, tl81, tl100, tl1000, tl9999, tlm1, tlm9, tlm50, tl2147483647]; omega)) (by first | omega | assumption | (try simp only [tl0, tl1, tl2, tl3, tl4, tl5, tl6, tl8, tl9, tl10, tl50, tl81, tl100, tl1000, tl9999, tlm1, tlm9, tlm50, tl2147483647]; omega)) (by first | omega | assumption | (try simp only [tl0, tl1, tl2, tl3, tl4, tl5, tl6, tl8, tl9, tl10, tl50, tl81, tl100, tl1000, tl9999, tlm1, tlm9, tlm50, tl2147483647]; omega))) ?_ (fun z40 hz40 => ?_)
  · intro en hen hn
    simp only [List.mem_cons, List.not_mem_nil, or_false] at hen
    rcases hen with rfl | rfl
    · rw [if_pos rfl]
      refine Ok_some ?_
      try dsimp only
      try simp only [tl0, tl1, tl2, tl3, tl4, tl5, tl6, tl8, tl9, tl10, tl50, tl81, tl100, tl1000, tl9999, tlm1, tlm9, tlm50, tl2147483647]
      first | trivial | omega | (simp; done) | (simp; omega) | (repeat' first | assumption | omega | apply And.intro)
    · rw [if_neg (by decide)]
      rw [if_pos rfl]
      refine Ok_some ?_
      try dsimp only
      try simp only [tl0, tl1, tl2, tl3, tl4, tl5, tl6, tl8, tl9, tl10, tl50, tl81, tl100, tl1000, tl9999, tlm1, tlm9, tlm50, tl2147483647]
      first | trivial | omega | (simp; done) | (simp; omega) | (repeat' first | assumption | omega | apply And.intro)
  · try dsimp only at hz40
    try simp only [tl0, tl1, tl2, tl3, tl4, tl5, tl6, tl8, tl9, tl10, tl50, tl81, tl100, tl1000, tl9999, tlm1, tlm9, tlm50, tl2147483647] at hz40
    refine Ok_some ?_
    try dsimp only
    try simp only [tl0, tl1, tl2, tl3, tl4, tl5, tl6, tl8, tl9, tl10, tl50, tl81, tl100, tl1000, tl9999, tlm1, tlm9, tlm50, tl2147483647]
    first | trivial | omega | (simp; done) | (simp; omega) | (repeat' first | assumption | omega | apply And.intro)
set_option maxRecDepth 4000 in
theorem ok2_L_apart (i12 : Int32) (i13 : Int32) (i14 : Int32) (f18 : Nat → Int32) (f20 : Nat → Int32) (i21 : Int32) (i22 : Int32) (i23 : Int32) (f27 : Nat → Int32) (f29 : Nat → Int32) (i32 : Int32) (i34 : Int32) (f35 : Nat → Int32) (f36 : Nat → Int32) (l37 : Int64) (i2 : Int32) (h0 : 2 ≤ i12.toInt ∧ i12.toInt ≤ 9) (h1 : 0 ≤ i32.toInt ∧ i32.toInt ≤ 9) (h2 : 0 ≤ i34.toInt ∧ i34.toInt ≤ 10) : Ok (fL_apart i12 i13 i14 f18 f20 i21 i22 i23 f27 f29 i32 i34 f35 f36 l37 i2) (fun z => (0 ≤ z.2.2.2.2.2.2.1.toInt ∧ z.2.2.2.2.2.2.1.toInt ≤ 9) ∧ (0 ≤ z.2.2.2.2.2.2.2.1.toInt ∧ z.2.2.2.2.2.2.2.1.toInt ≤ 10)) := by
  unfold fL_apart
  refine Ok_xc (ok_X6_apart i12 i13 i14 f18 f20 f27 f29 i32 i34 f35 f36 i2 (by first | omega | assumption | (try simp only [tl0, tl1, tl2, tl3, tl4, tl5, tl6, tl8, tl9, tl10, tl50, tl81, tl100, tl1000, tl9999, tlm1, tlm9, tlm50, tl2147483647]; omega)) (by first | omega | assumption | (try simp only [tl0, tl1, tl2, tl3, tl4, tl5, tl6, tl8, tl9, tl10, tl50, tl81, tl100, tl1000, tl9999, tlm1, tlm9, tlm50, tl2147483647]; omega)) (by first | omega | assumption | (try simp only [tl0, tl1, tl2, tl3, tl4, tl5, tl6, tl8, tl9, tl10, tl50, tl81, tl100, tl1000, tl9999, tlm1, tlm9, tlm50, tl2147483647]; omega))) ?_ (fun z39 hz39 => ?_)
  · intro en hen hn
    simp only [List.mem_cons, List.not_mem_nil, or_false] at hen
    subst hen
    rw [if_pos rfl]
    refine Ok_some ?_
    try dsimp only
    try simp only [tl0, tl1, tl2, tl3, tl4, tl5, tl6, tl8, tl9, tl10, tl50, tl81, tl100, tl1000, tl9999, tlm1, tlm9, tlm50, tl2147483647]
    first | trivial | omega | (simp; done) | (simp; omega) | (repeat' first | assumption | omega | apply And.intro)
  · try dsimp only at hz39
    try simp only [tl0, tl1, tl2, tl3, tl4, tl5, tl6, tl8, tl9, tl10, tl50, tl81, tl100, tl1000, tl9999, tlm1, tlm9, tlm50, tl2147483647] at hz39
    refine Ok_some ?_
    try dsimp only
    try simp only [tl0, tl1, tl2, tl3, tl4, tl5, tl6, tl8, tl9, tl10, tl50, tl81, tl100, tl1000, tl9999, tlm1, tlm9, tlm50, tl2147483647]
    first | trivial | omega | (simp; done) | (simp; omega) | (repeat' first | assumption | omega | apply And.intro)
