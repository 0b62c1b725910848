/-! by program: what the reference's functions give, where no flow matters -/
theorem sh9 {x : Int32} (h1 : 2 ≤ x.toInt) (h2 : x.toInt ≤ 9) : 4 ≤ ((1 : Int32) <<< (x &&& 31)).toInt ∧ ((1 : Int32) <<< (x &&& 31)).toInt ≤ 512 := by
  rcases (show x.toInt = 2 ∨ x.toInt = 3 ∨ x.toInt = 4 ∨ x.toInt = 5 ∨ x.toInt = 6 ∨ x.toInt = 7 ∨ x.toInt = 8 ∨ x.toInt = 9 by omega) with h | h | h | h | h | h | h | h
  · rw [show x = 2 from Int32.toInt_inj.mp h]; decide
  · rw [show x = 3 from Int32.toInt_inj.mp h]; decide
  · rw [show x = 4 from Int32.toInt_inj.mp h]; decide
  · rw [show x = 5 from Int32.toInt_inj.mp h]; decide
  · rw [show x = 6 from Int32.toInt_inj.mp h]; decide
  · rw [show x = 7 from Int32.toInt_inj.mp h]; decide
  · rw [show x = 8 from Int32.toInt_inj.mp h]; decide
  · rw [show x = 9 from Int32.toInt_inj.mp h]; decide
set_option maxRecDepth 4000 in
theorem ok_X8_isThrown (i2 : Int32) (i3 : Int32)  : Ok (fX8_isThrown i2 i3) (fun z => ((z.1.toInt = 0 ∧ i2.toInt = 0 ∧ i3.toInt = 0) ∨ z.1.toInt = 1)) := by
  unfold fX8_isThrown
  refine Ok_jn (fun k13 wk13 => ?_)
  refine Ok_if ?_ ?_
  · intro h
    have c2 : i2.toInt = 0 := i32eq h
    refine Ok_if ?_ ?_
    · intro h
      have c3 : i3.toInt = 0 := i32eq h
      rw [wk13]
      show Ok (if (0 : Int32) ≤ (0 : Int32) then (some ((0 : Int32), (0 : Int32))) else (some ((1 : Int32), (0 : Int32)))) _
      refine Ok_if ?_ ?_
      · intro h
        refine Ok_some ?_
        try dsimp only
        try simp only [tl0, tl1, tl2, tl3, tl4, tl5, tl6, tl8, tl9, tl10, tl50, tl81, tl100, tl1000, tl9999, tlm1, tlm9, tlm50, tl2147483647]
        first | trivial | omega | (simp; done) | (simp; omega) | (repeat' first | assumption | omega | apply And.intro)
      · intro h
        exact absurd (show (0 : Int32) ≤ (0 : Int32) by decide) h
    · intro h
      have c6 : i3.toInt ≠ 0 := i32ne h
      rw [wk13]
      show Ok (if (2 : Int32) ≤ (0 : Int32) then (some ((0 : Int32), (2 : Int32))) else (some ((1 : Int32), (2 : Int32)))) _
      refine Ok_if ?_ ?_
      · intro h
        exact absurd h (by decide)
      · intro h
        refine Ok_some ?_
        try dsimp only
        try simp only [tl0, tl1, tl2, tl3, tl4, tl5, tl6, tl8, tl9, tl10, tl50, tl81, tl100, tl1000, tl9999, tlm1, tlm9, tlm50, tl2147483647]
        first | trivial | omega | (simp; done) | (simp; omega) | (repeat' first | assumption | omega | apply And.intro)
  · intro h
    have c9 : i2.toInt ≠ 0 := i32ne h
    rw [wk13]
    show Ok (if (1 : Int32) ≤ (0 : Int32) then (some ((0 : Int32), (1 : Int32))) else (some ((1 : Int32), (1 : Int32)))) _
    refine Ok_if ?_ ?_
    · intro h
      exact absurd h (by decide)
    · intro h
      refine Ok_some ?_
      try dsimp only
      try simp only [tl0, tl1, tl2, tl3, tl4, tl5, tl6, tl8, tl9, tl10, tl50, tl81, tl100, tl1000, tl9999, tlm1, tlm9, tlm50, tl2147483647]
      first | trivial | omega | (simp; done) | (simp; omega) | (repeat' first | assumption | omega | apply And.intro)
set_option maxRecDepth 4000 in
theorem ok_X8_isThrown_ (i2 : Int32)  : Ok (fX8_isThrown_ i2) (fun z => ((z.1.toInt = 0 ∧ i2.toInt = 0) ∨ z.1.toInt = 1)) := by
  unfold fX8_isThrown_
  refine Ok_bind (ok_X8_isThrown i2 (0 : Int32)) (fun z12 hz12 => ?_)
  try dsimp only at hz12
  try simp only [tl0, tl1, tl2, tl3, tl4, tl5, tl6, tl8, tl9, tl10, tl50, tl81, tl100, tl1000, tl9999, tlm1, tlm9, tlm50, tl2147483647] at hz12
  refine Ok_bz (by first | exact Or.inl rfl | exact Or.inr rfl | exact bz_of (by omega) (by omega)) ?_
  refine Ok_some ?_
  try dsimp only
  try simp only [tl0, tl1, tl2, tl3, tl4, tl5, tl6, tl8, tl9, tl10, tl50, tl81, tl100, tl1000, tl9999, tlm1, tlm9, tlm50, tl2147483647]
  first | trivial | omega | (simp; done) | (simp; omega) | (repeat' first | assumption | omega | apply And.intro)
set_option maxRecDepth 4000 in
theorem ok_X8_isPlace (i3 : Int32) (i2 : Int32) (h0 : 2 ≤ i3.toInt ∧ i3.toInt ≤ 9) : Ok (fX8_isPlace i3 i2) (fun z => ((z.toInt = 1 ∧ 0 ≤ i2.toInt ∧ i2.toInt < i3.toInt) ∨ z.toInt = 0)) := by
  unfold fX8_isPlace
  refine Ok_if ?_ ?_
  · intro h
    have c12 : i2.toInt < 0 := i32lt h
    refine Ok_some ?_
    try dsimp only
    try simp only [tl0, tl1, tl2, tl3, tl4, tl5, tl6, tl8, tl9, tl10, tl50, tl81, tl100, tl1000, tl9999, tlm1, tlm9, tlm50, tl2147483647]
    first | trivial | omega | (simp; done) | (simp; omega) | (repeat' first | assumption | omega | apply And.intro)
  · intro h
    have c13 : 0 ≤ i2.toInt := i32nlt h
    refine Ok_if ?_ ?_
    · intro h
      have c14 : i3.toInt ≤ i2.toInt := i32le h
      refine Ok_some ?_
      try dsimp only
      try simp only [tl0, tl1, tl2, tl3, tl4, tl5, tl6, tl8, tl9, tl10, tl50, tl81, tl100, tl1000, tl9999, tlm1, tlm9, tlm50, tl2147483647]
      first | trivial | omega | (simp; done) | (simp; omega) | (repeat' first | assumption | omega | apply And.intro)
    · intro h
      have c15 : i2.toInt < i3.toInt := i32nle h
      refine Ok_some ?_
      try dsimp only
      try simp only [tl0, tl1, tl2, tl3, tl4, tl5, tl6, tl8, tl9, tl10, tl50, tl81, tl100, tl1000, tl9999, tlm1, tlm9, tlm50, tl2147483647]
      first | trivial | omega | (simp; done) | (simp; omega) | (repeat' first | assumption | omega | apply And.intro)
set_option maxRecDepth 4000 in
theorem ok_X8_isRule (i1 : Int32)  : Ok (fX8_isRule i1) (fun z => ((z.toInt = 1 ∧ 0 ≤ i1.toInt ∧ i1.toInt ≤ 2) ∨ z.toInt = 0)) := by
  unfold fX8_isRule
  refine Ok_if ?_ ?_
  · intro h
    have c20 : i1.toInt < 0 := i32lt h
    refine Ok_some ?_
    try dsimp only
    try simp only [tl0, tl1, tl2, tl3, tl4, tl5, tl6, tl8, tl9, tl10, tl50, tl81, tl100, tl1000, tl9999, tlm1, tlm9, tlm50, tl2147483647]
    first | trivial | omega | (simp; done) | (simp; omega) | (repeat' first | assumption | omega | apply And.intro)
  · intro h
    have c21 : 0 ≤ i1.toInt := i32nlt h
    refine Ok_if ?_ ?_
    · intro h
      have c22 : 2 < i1.toInt := i32lt h
      refine Ok_some ?_
      try dsimp only
      try simp only [tl0, tl1, tl2, tl3, tl4, tl5, tl6, tl8, tl9, tl10, tl50, tl81, tl100, tl1000, tl9999, tlm1, tlm9, tlm50, tl2147483647]
      first | trivial | omega | (simp; done) | (simp; omega) | (repeat' first | assumption | omega | apply And.intro)
    · intro h
      have c23 : i1.toInt ≤ 2 := i32nlt h
      refine Ok_some ?_
      try dsimp only
      try simp only [tl0, tl1, tl2, tl3, tl4, tl5, tl6, tl8, tl9, tl10, tl50, tl81, tl100, tl1000, tl9999, tlm1, tlm9, tlm50, tl2147483647]
      first | trivial | omega | (simp; done) | (simp; omega) | (repeat' first | assumption | omega | apply And.intro)
set_option maxRecDepth 4000 in
theorem ok_X8_isSet (i3 : Int32) (i2 : Int32) (h0 : 2 ≤ i3.toInt ∧ i3.toInt ≤ 9) : Ok (fX8_isSet i3 i2) (fun z => True) := by
  unfold fX8_isSet
  refine Ok_if ?_ ?_
  · intro h
    have c24 : i2.toInt < 0 := i32lt h
    exact Ok_some trivial
  · intro h
    have c25 : 0 ≤ i2.toInt := i32nlt h
    refine Ok_if ?_ ?_
    · intro h
      try (have e27 := sh9 (x := i3) (by omega) (by omega))
      have c26 : ((1 : Int32) <<< (i3 &&& 31)).toInt ≤ i2.toInt := i32le h
      exact Ok_some trivial
    · intro h
      try (have e29 := sh9 (x := i3) (by omega) (by omega))
      have c28 : i2.toInt < ((1 : Int32) <<< (i3 &&& 31)).toInt := i32nle h
      exact Ok_some trivial
set_option maxRecDepth 4000 in
theorem ok_X8_room (f13 : Nat → Int32) (i2 : Int32) (i3 : Int32) (h0 : 0 ≤ i2.toInt) (h1 : i2.toInt ≤ 8) (h2 : 0 ≤ i3.toInt) (h3 : i3.toInt ≤ 8) : Ok (fX8_room f13 i2 i3) (fun z => True) := by
  unfold fX8_room
  try (have e32 := idx_iv (x := i2) (y := i3) (by omega) (by omega) (by omega) (by omega))
  refine Ok_inB (vp_of (by first | omega | assumption | (try simp only [tl0, tl1, tl2, tl3, tl4, tl5, tl6, tl8, tl9, tl10, tl50, tl81, tl100, tl1000, tl9999, tlm1, tlm9, tlm50, tl2147483647]; omega)) (by first | omega | assumption | (try simp only [tl0, tl1, tl2, tl3, tl4, tl5, tl6, tl8, tl9, tl10, tl50, tl81, tl100, tl1000, tl9999, tlm1, tlm9, tlm50, tl2147483647]; omega))) ?_
  exact Ok_some trivial
set_option maxRecDepth 4000 in
theorem ok_X8_flow (f13 : Nat → Int32) (i2 : Int32) (i3 : Int32) (h0 : 0 ≤ i2.toInt) (h1 : i2.toInt ≤ 8) (h2 : 0 ≤ i3.toInt) (h3 : i3.toInt ≤ 8) : Ok (fX8_flow f13 i2 i3) (fun z => True) := by
  unfold fX8_flow
  try (have e33 := idx_iv (x := i2) (y := i3) (by omega) (by omega) (by omega) (by omega))
  refine Ok_inB (vp_of (by first | omega | assumption | (try simp only [tl0, tl1, tl2, tl3, tl4, tl5, tl6, tl8, tl9, tl10, tl50, tl81, tl100, tl1000, tl9999, tlm1, tlm9, tlm50, tl2147483647]; omega)) (by first | omega | assumption | (try simp only [tl0, tl1, tl2, tl3, tl4, tl5, tl6, tl8, tl9, tl10, tl50, tl81, tl100, tl1000, tl9999, tlm1, tlm9, tlm50, tl2147483647]; omega))) ?_
  exact Ok_some trivial
set_option maxRecDepth 4000 in
theorem ok_X8_left (f13 : Nat → Int32) (f14 : Nat → Int32) (i2 : Int32) (i3 : Int32) (h0 : 0 ≤ i2.toInt) (h1 : i2.toInt ≤ 8) (h2 : 0 ≤ i3.toInt) (h3 : i3.toInt ≤ 8) : Ok (fX8_left f13 f14 i2 i3) (fun z => True) := by
  unfold fX8_left
  refine Ok_bind (ok_X8_room f13 i2 i3 (by first | omega | assumption | (try simp only [tl0, tl1, tl2, tl3, tl4, tl5, tl6, tl8, tl9, tl10, tl50, tl81, tl100, tl1000, tl9999, tlm1, tlm9, tlm50, tl2147483647]; omega)) (by first | omega | assumption | (try simp only [tl0, tl1, tl2, tl3, tl4, tl5, tl6, tl8, tl9, tl10, tl50, tl81, tl100, tl1000, tl9999, tlm1, tlm9, tlm50, tl2147483647]; omega)) (by first | omega | assumption | (try simp only [tl0, tl1, tl2, tl3, tl4, tl5, tl6, tl8, tl9, tl10, tl50, tl81, tl100, tl1000, tl9999, tlm1, tlm9, tlm50, tl2147483647]; omega)) (by first | omega | assumption | (try simp only [tl0, tl1, tl2, tl3, tl4, tl5, tl6, tl8, tl9, tl10, tl50, tl81, tl100, tl1000, tl9999, tlm1, tlm9, tlm50, tl2147483647]; omega))) (fun z15 hz15 => ?_)
  refine Ok_bind (ok_X8_flow f14 i2 i3 (by first | omega | assumption | (try simp only [tl0, tl1, tl2, tl3, tl4, tl5, tl6, tl8, tl9, tl10, tl50, tl81, tl100, tl1000, tl9999, tlm1, tlm9, tlm50, tl2147483647]; omega)) (by first | omega | assumption | (try simp only [tl0, tl1, tl2, tl3, tl4, tl5, tl6, tl8, tl9, tl10, tl50, tl81, tl100, tl1000, tl9999, tlm1, tlm9, tlm50, tl2147483647]; omega)) (by first | omega | assumption | (try simp only [tl0, tl1, tl2, tl3, tl4, tl5, tl6, tl8, tl9, tl10, tl50, tl81, tl100, tl1000, tl9999, tlm1, tlm9, tlm50, tl2147483647]; omega)) (by first | omega | assumption | (try simp only [tl0, tl1, tl2, tl3, tl4, tl5, tl6, tl8, tl9, tl10, tl50, tl81, tl100, tl1000, tl9999, tlm1, tlm9, tlm50, tl2147483647]; omega))) (fun z16 hz16 => ?_)
  try (have e34 := sub_iv (x := z15) (y := z16) (by omega) (by omega))
  exact Ok_some trivial
set_option maxRecDepth 4000 in
theorem okL_X8_fromPlace_L5 (i4 : Int32) (f13 : Nat → Int32) (i3 : Int32)   (g0 : 2 ≤ i4.toInt ∧ i4.toInt ≤ 9) (g1 : 0 ≤ i3.toInt) (g2 : i3.toInt ≤ 8)  : ∀ (n : Nat) (i28 : Int32) (i29 : Int32), 0 ≤ i29.toInt → i4.toInt - i29.toInt < n → 0 < n → Ok (LX8_fromPlace_L5 i4 f13 i3 n i28 i29 ) (fun z => True) := by
  intro n
  induction n with
  | zero => intro i28 i29 v0 hm h0; exact absurd h0 (Nat.lt_irrefl 0)
  | succ n ih =>
    intro i28 i29 v0 hm h0
    show Ok (BX8_fromPlace_L5 i4 f13 i3 i28 i29 (fun i28 i29 => LX8_fromPlace_L5 i4 f13 i3 n i28 i29 ) ) _
    unfold BX8_fromPlace_L5
    refine Ok_if ?_ ?_
    · intro h
      have c40 : i4.toInt ≤ i29.toInt := i32le h
      exact Ok_some trivial
    · intro h
      have c41 : i29.toInt < i4.toInt := i32nle h
      try (have e42 := idx_iv (x := i3) (y := i29) (by omega) (by omega) (by omega) (by omega))
      refine Ok_inB (vp_of (by first | omega | assumption | (try simp only [tl0, tl1, tl2, tl3, tl4, tl5, tl6, tl8, tl9, tl10, tl50, tl81, tl100, tl1000, tl9999, tlm1, tlm9, tlm50, tl2147483647]; omega)) (by first | omega | assumption | (try simp only [tl0, tl1, tl2, tl3, tl4, tl5, tl6, tl8, tl9, tl10, tl50, tl81, tl100, tl1000, tl9999, tlm1, tlm9, tlm50, tl2147483647]; omega))) ?_
      refine Ok_nm (fun i30 wi30 => ?_)
      have qi30 := i32eq wi30
      try (have e43 := inc_iv (x := i29) (by omega))
      exact ih i30 (i29 + (1 : Int32)) (by first | omega | assumption | (try simp only [tl0, tl1, tl2, tl3, tl4, tl5, tl6, tl8, tl9, tl10, tl50, tl81, tl100, tl1000, tl9999, tlm1, tlm9, tlm50, tl2147483647]; omega)) (by first | omega | assumption | (try simp only [tl0, tl1, tl2, tl3, tl4, tl5, tl6, tl8, tl9, tl10, tl50, tl81, tl100, tl1000, tl9999, tlm1, tlm9, tlm50, tl2147483647]; omega)) (by first | omega | assumption | (try simp only [tl0, tl1, tl2, tl3, tl4, tl5, tl6, tl8, tl9, tl10, tl50, tl81, tl100, tl1000, tl9999, tlm1, tlm9, tlm50, tl2147483647]; omega))
set_option maxRecDepth 4000 in
theorem ok_X8_fromPlace (i4 : Int32) (f13 : Nat → Int32) (i3 : Int32) (h0 : 2 ≤ i4.toInt ∧ i4.toInt ≤ 9) (h1 : 0 ≤ i3.toInt) (h2 : i3.toInt ≤ 8) : Ok (fX8_fromPlace i4 f13 i3) (fun z => True) := by
  unfold fX8_fromPlace
  refine Ok_mono (okL_X8_fromPlace_L5 i4 f13 i3 (by first | omega | assumption | (try simp only [tl0, tl1, tl2, tl3, tl4, tl5, tl6, tl8, tl9, tl10, tl50, tl81, tl100, tl1000, tl9999, tlm1, tlm9, tlm50, tl2147483647]; omega)) (by first | omega | assumption | (try simp only [tl0, tl1, tl2, tl3, tl4, tl5, tl6, tl8, tl9, tl10, tl50, tl81, tl100, tl1000, tl9999, tlm1, tlm9, tlm50, tl2147483647]; omega)) (by first | omega | assumption | (try simp only [tl0, tl1, tl2, tl3, tl4, tl5, tl6, tl8, tl9, tl10, tl50, tl81, tl100, tl1000, tl9999, tlm1, tlm9, tlm50, tl2147483647]; omega)) 600 (0 : Int32) (0 : Int32) (by first | omega | assumption | (try simp only [tl0, tl1, tl2, tl3, tl4, tl5, tl6, tl8, tl9, tl10, tl50, tl81, tl100, tl1000, tl9999, tlm1, tlm9, tlm50, tl2147483647]; omega)) (by first | omega | assumption | (try simp only [tl0, tl1, tl2, tl3, tl4, tl5, tl6, tl8, tl9, tl10, tl50, tl81, tl100, tl1000, tl9999, tlm1, tlm9, tlm50, tl2147483647]; omega)) (by first | omega | assumption | (try simp only [tl0, tl1, tl2, tl3, tl4, tl5, tl6, tl8, tl9, tl10, tl50, tl81, tl100, tl1000, tl9999, tlm1, tlm9, tlm50, tl2147483647]; omega))) ?_
  intro z hz
  first | exact hz | (simp only [Sx] at *; omega) | (dsimp only at *; omega)
set_option maxRecDepth 4000 in
theorem ok_X8_valueNow (i2 : Int32) (i5 : Int32) (f11 : Nat → Int32) (h0 : 2 ≤ i2.toInt ∧ i2.toInt ≤ 9) (h1 : 0 ≤ i5.toInt ∧ i5.toInt ≤ 8) : Ok (fX8_valueNow i2 i5 f11) (fun z => True) := by
  unfold fX8_valueNow
  refine Ok_bind (ok_X8_fromPlace i2 f11 i5 (by first | omega | assumption | (try simp only [tl0, tl1, tl2, tl3, tl4, tl5, tl6, tl8, tl9, tl10, tl50, tl81, tl100, tl1000, tl9999, tlm1, tlm9, tlm50, tl2147483647]; omega)) (by first | omega | assumption | (try simp only [tl0, tl1, tl2, tl3, tl4, tl5, tl6, tl8, tl9, tl10, tl50, tl81, tl100, tl1000, tl9999, tlm1, tlm9, tlm50, tl2147483647]; omega)) (by first | omega | assumption | (try simp only [tl0, tl1, tl2, tl3, tl4, tl5, tl6, tl8, tl9, tl10, tl50, tl81, tl100, tl1000, tl9999, tlm1, tlm9, tlm50, tl2147483647]; omega))) (fun z12 hz12 => ?_)
  exact Ok_some trivial
set_option maxRecDepth 4000 in
theorem okL_X8_through_L29 (i4 : Int32) (f13 : Nat → Int32) (i3 : Int32) (i56 : Int32) {P : (Int32) → Prop} {k1 : Int32 → Option (Int32)} (g0 : 2 ≤ i4.toInt ∧ i4.toInt ≤ 9) (g1 : 0 ≤ i56.toInt) (g2 : i56.toInt ≤ 8) (hk1 : ∀ (y1 : Int32), Ok (k1 y1) P) : ∀ (n : Nat) (i77 : Int32) (i78 : Int32), 0 ≤ i78.toInt → i4.toInt - i78.toInt < n → 0 < n → Ok (LX8_through_L29 i4 f13 i3 i56 n i77 i78 k1) P := by
  intro n
  induction n with
  | zero => intro i77 i78 v0 hm h0; exact absurd h0 (Nat.lt_irrefl 0)
  | succ n ih =>
    intro i77 i78 v0 hm h0
    show Ok (BX8_through_L29 i4 f13 i3 i56 i77 i78 (fun i77 i78 => LX8_through_L29 i4 f13 i3 i56 n i77 i78 k1) k1) _
    unfold BX8_through_L29
    refine Ok_if ?_ ?_
    · intro h
      have c49 : i4.toInt ≤ i78.toInt := i32le h
      exact hk1 i77
    · intro h
      have c50 : i78.toInt < i4.toInt := i32nle h
      refine Ok_jn (fun k79 wk79 => ?_)
      refine Ok_if ?_ ?_
      · intro h
        have c51 : ((i3 >>> (i78 &&& 31)) &&& (1 : Int32)).toInt = 0 := i32eq h
        try (have e52 := idx_iv (x := i56) (y := i78) (by omega) (by omega) (by omega) (by omega))
        refine Ok_inB (vp_of (by first | omega | assumption | (try simp only [tl0, tl1, tl2, tl3, tl4, tl5, tl6, tl8, tl9, tl10, tl50, tl81, tl100, tl1000, tl9999, tlm1, tlm9, tlm50, tl2147483647]; omega)) (by first | omega | assumption | (try simp only [tl0, tl1, tl2, tl3, tl4, tl5, tl6, tl8, tl9, tl10, tl50, tl81, tl100, tl1000, tl9999, tlm1, tlm9, tlm50, tl2147483647]; omega))) ?_
        refine Ok_nm (fun i81 wi81 => ?_)
        have qi81 := i32eq wi81
        rw [wk79]
        show Ok ((fun i77 i78 => LX8_through_L29 i4 f13 i3 i56 n i77 i78 k1) i81 (i78 + (1 : Int32))) _
        try (have e53 := inc_iv (x := i78) (by omega))
        exact ih i81 (i78 + (1 : Int32)) (by first | omega | assumption | (try simp only [tl0, tl1, tl2, tl3, tl4, tl5, tl6, tl8, tl9, tl10, tl50, tl81, tl100, tl1000, tl9999, tlm1, tlm9, tlm50, tl2147483647]; omega)) (by first | omega | assumption | (try simp only [tl0, tl1, tl2, tl3, tl4, tl5, tl6, tl8, tl9, tl10, tl50, tl81, tl100, tl1000, tl9999, tlm1, tlm9, tlm50, tl2147483647]; omega)) (by first | omega | assumption | (try simp only [tl0, tl1, tl2, tl3, tl4, tl5, tl6, tl8, tl9, tl10, tl50, tl81, tl100, tl1000, tl9999, tlm1, tlm9, tlm50, tl2147483647]; omega))
      · intro h
        have c54 : ((i3 >>> (i78 &&& 31)) &&& (1 : Int32)).toInt ≠ 0 := i32ne h
        rw [wk79]
        show Ok ((fun i77 i78 => LX8_through_L29 i4 f13 i3 i56 n i77 i78 k1) i77 (i78 + (1 : Int32))) _
        try (have e55 := inc_iv (x := i78) (by omega))
        exact ih i77 (i78 + (1 : Int32)) (by first | omega | assumption | (try simp only [tl0, tl1, tl2, tl3, tl4, tl5, tl6, tl8, tl9, tl10, tl50, tl81, tl100, tl1000, tl9999, tlm1, tlm9, tlm50, tl2147483647]; omega)) (by first | omega | assumption | (try simp only [tl0, tl1, tl2, tl3, tl4, tl5, tl6, tl8, tl9, tl10, tl50, tl81, tl100, tl1000, tl9999, tlm1, tlm9, tlm50, tl2147483647]; omega)) (by first | omega | assumption | (try simp only [tl0, tl1, tl2, tl3, tl4, tl5, tl6, tl8, tl9, tl10, tl50, tl81, tl100, tl1000, tl9999, tlm1, tlm9, tlm50, tl2147483647]; omega))
set_option maxRecDepth 4000 in
theorem okL_X8_through_L5 (i4 : Int32) (f13 : Nat → Int32) (i3 : Int32)   (g0 : 2 ≤ i4.toInt ∧ i4.toInt ≤ 9)  : ∀ (n : Nat) (i55 : Int32) (i56 : Int32), 0 ≤ i56.toInt → i4.toInt - i56.toInt < n → 0 < n → Ok (LX8_through_L5 i4 f13 i3 n i55 i56 ) (fun z => True) := by
  intro n
  induction n with
  | zero => intro i55 i56 v0 hm h0; exact absurd h0 (Nat.lt_irrefl 0)
  | succ n ih =>
    intro i55 i56 v0 hm h0
    show Ok (BX8_through_L5 i4 f13 i3 i55 i56 (fun i55 i56 => LX8_through_L5 i4 f13 i3 n i55 i56 ) ) _
    unfold BX8_through_L5
    refine Ok_if ?_ ?_
    · intro h
      have c44 : i4.toInt ≤ i56.toInt := i32le h
      exact Ok_some trivial
    · intro h
      have c45 : i56.toInt < i4.toInt := i32nle h
      refine Ok_jn (fun k57 wk57 => ?_)
      refine Ok_if ?_ ?_
      · intro h
        have c46 : ((i3 >>> (i56 &&& 31)) &&& (1 : Int32)).toInt = 0 := i32eq h
        rw [wk57]
        show Ok ((fun i55 i56 => LX8_through_L5 i4 f13 i3 n i55 i56 ) i55 (i56 + (1 : Int32))) _
        try (have e47 := inc_iv (x := i56) (by omega))
        exact ih i55 (i56 + (1 : Int32)) (by first | omega | assumption | (try simp only [tl0, tl1, tl2, tl3, tl4, tl5, tl6, tl8, tl9, tl10, tl50, tl81, tl100, tl1000, tl9999, tlm1, tlm9, tlm50, tl2147483647]; omega)) (by first | omega | assumption | (try simp only [tl0, tl1, tl2, tl3, tl4, tl5, tl6, tl8, tl9, tl10, tl50, tl81, tl100, tl1000, tl9999, tlm1, tlm9, tlm50, tl2147483647]; omega)) (by first | omega | assumption | (try simp only [tl0, tl1, tl2, tl3, tl4, tl5, tl6, tl8, tl9, tl10, tl50, tl81, tl100, tl1000, tl9999, tlm1, tlm9, tlm50, tl2147483647]; omega))
      · intro h
        have c48 : ((i3 >>> (i56 &&& 31)) &&& (1 : Int32)).toInt ≠ 0 := i32ne h
        refine okL_X8_through_L29 i4 f13 i3 i56 (by first | omega | assumption | (try simp only [tl0, tl1, tl2, tl3, tl4, tl5, tl6, tl8, tl9, tl10, tl50, tl81, tl100, tl1000, tl9999, tlm1, tlm9, tlm50, tl2147483647]; omega)) (by first | omega | assumption | (try simp only [tl0, tl1, tl2, tl3, tl4, tl5, tl6, tl8, tl9, tl10, tl50, tl81, tl100, tl1000, tl9999, tlm1, tlm9, tlm50, tl2147483647]; omega)) (by first | omega | assumption | (try simp only [tl0, tl1, tl2, tl3, tl4, tl5, tl6, tl8, tl9, tl10, tl50, tl81, tl100, tl1000, tl9999, tlm1, tlm9, tlm50, tl2147483647]; omega)) ?_ 600 i55 (0 : Int32) (by first | omega | assumption | (try simp only [tl0, tl1, tl2, tl3, tl4, tl5, tl6, tl8, tl9, tl10, tl50, tl81, tl100, tl1000, tl9999, tlm1, tlm9, tlm50, tl2147483647]; omega)) (by first | omega | assumption | (try simp only [tl0, tl1, tl2, tl3, tl4, tl5, tl6, tl8, tl9, tl10, tl50, tl81, tl100, tl1000, tl9999, tlm1, tlm9, tlm50, tl2147483647]; omega)) (by first | omega | assumption | (try simp only [tl0, tl1, tl2, tl3, tl4, tl5, tl6, tl8, tl9, tl10, tl50, tl81, tl100, tl1000, tl9999, tlm1, tlm9, tlm50, tl2147483647]; omega))
        intro i83
        show Ok (k57 i83) _
        rw [wk57]
        show Ok ((fun i55 i56 => LX8_through_L5 i4 f13 i3 n i55 i56 ) i83 (i56 + (1 : Int32))) _
        try (have e56 := inc_iv (x := i56) (by omega))
        exact ih i83 (i56 + (1 : Int32)) (by first | omega | assumption | (try simp only [tl0, tl1, tl2, tl3, tl4, tl5, tl6, tl8, tl9, tl10, tl50, tl81, tl100, tl1000, tl9999, tlm1, tlm9, tlm50, tl2147483647]; omega)) (by first | omega | assumption | (try simp only [tl0, tl1, tl2, tl3, tl4, tl5, tl6, tl8, tl9, tl10, tl50, tl81, tl100, tl1000, tl9999, tlm1, tlm9, tlm50, tl2147483647]; omega)) (by first | omega | assumption | (try simp only [tl0, tl1, tl2, tl3, tl4, tl5, tl6, tl8, tl9, tl10, tl50, tl81, tl100, tl1000, tl9999, tlm1, tlm9, tlm50, tl2147483647]; omega))
set_option maxRecDepth 4000 in
theorem ok_X8_through (i4 : Int32) (f13 : Nat → Int32) (i3 : Int32) (h0 : 2 ≤ i4.toInt ∧ i4.toInt ≤ 9) : Ok (fX8_through i4 f13 i3) (fun z => True) := by
  unfold fX8_through
  refine Ok_mono (okL_X8_through_L5 i4 f13 i3 (by first | omega | assumption | (try simp only [tl0, tl1, tl2, tl3, tl4, tl5, tl6, tl8, tl9, tl10, tl50, tl81, tl100, tl1000, tl9999, tlm1, tlm9, tlm50, tl2147483647]; omega)) 600 (0 : Int32) (0 : Int32) (by first | omega | assumption | (try simp only [tl0, tl1, tl2, tl3, tl4, tl5, tl6, tl8, tl9, tl10, tl50, tl81, tl100, tl1000, tl9999, tlm1, tlm9, tlm50, tl2147483647]; omega)) (by first | omega | assumption | (try simp only [tl0, tl1, tl2, tl3, tl4, tl5, tl6, tl8, tl9, tl10, tl50, tl81, tl100, tl1000, tl9999, tlm1, tlm9, tlm50, tl2147483647]; omega)) (by first | omega | assumption | (try simp only [tl0, tl1, tl2, tl3, tl4, tl5, tl6, tl8, tl9, tl10, tl50, tl81, tl100, tl1000, tl9999, tlm1, tlm9, tlm50, tl2147483647]; omega))) ?_
  intro z hz
  first | exact hz | (simp only [Sx] at *; omega) | (dsimp only at *; omega)
set_option maxRecDepth 4000 in
theorem ok_X8_isCut (i1 : Int32) (i2 : Int32) (i3 : Int32)  : Ok (fX8_isCut i1 i2 i3) (fun z => True) := by
  unfold fX8_isCut
  refine Ok_if ?_ ?_
  · intro h
    have c57 : ((i1 >>> (i2 &&& 31)) &&& (1 : Int32)).toInt = 1 := i32eq h
    refine Ok_if ?_ ?_
    · intro h
      have c58 : ((i1 >>> (i3 &&& 31)) &&& (1 : Int32)).toInt = 0 := i32eq h
      exact Ok_some trivial
    · intro h
      have c59 : ((i1 >>> (i3 &&& 31)) &&& (1 : Int32)).toInt ≠ 0 := i32ne h
      exact Ok_some trivial
  · intro h
    have c60 : ((i1 >>> (i2 &&& 31)) &&& (1 : Int32)).toInt ≠ 1 := i32ne h
    exact Ok_some trivial
set_option maxRecDepth 4000 in
theorem okL_X8_least_L7 (i5 : Int32) (f14 : Nat → Int32) (i3 : Int32) (i4 : Int32)   (g0 : 2 ≤ i5.toInt ∧ i5.toInt ≤ 9)  : ∀ (n : Nat) (i35 : Int32) (i36 : Int32), 0 ≤ i36.toInt → ((1 : Int32) <<< (i5 &&& 31)).toInt - i36.toInt < n → 0 < n → Ok (LX8_least_L7 i5 f14 i3 i4 n i35 i36 ) (fun z => True) := by
  intro n
  induction n with
  | zero => intro i35 i36 v0 hm h0; exact absurd h0 (Nat.lt_irrefl 0)
  | succ n ih =>
    intro i35 i36 v0 hm h0
    show Ok (BX8_least_L7 i5 f14 i3 i4 i35 i36 (fun i35 i36 => LX8_least_L7 i5 f14 i3 i4 n i35 i36 ) ) _
    unfold BX8_least_L7
    refine Ok_if ?_ ?_
    · intro h
      try (have e62 := sh9 (x := i5) (by omega) (by omega))
      have c61 : ((1 : Int32) <<< (i5 &&& 31)).toInt ≤ i36.toInt := i32le h
      exact Ok_some trivial
    · intro h
      try (have e64 := sh9 (x := i5) (by omega) (by omega))
      have c63 : i36.toInt < ((1 : Int32) <<< (i5 &&& 31)).toInt := i32nle h
      refine Ok_bind (ok_X8_isCut i36 i3 i4) (fun z37 hz37 => ?_)
      refine Ok_jn (fun k38 wk38 => ?_)
      refine Ok_if ?_ ?_
      · intro h
        have c65 : z37.toInt = 0 := i32eq h
        rw [wk38]
        show Ok ((fun i35 i36 => LX8_least_L7 i5 f14 i3 i4 n i35 i36 ) i35 (i36 + (1 : Int32))) _
        try (have e66 := inc_iv (x := i36) (by omega))
        exact ih i35 (i36 + (1 : Int32)) (by first | omega | assumption | (try simp only [tl0, tl1, tl2, tl3, tl4, tl5, tl6, tl8, tl9, tl10, tl50, tl81, tl100, tl1000, tl9999, tlm1, tlm9, tlm50, tl2147483647]; omega)) (by first | omega | assumption | (try simp only [tl0, tl1, tl2, tl3, tl4, tl5, tl6, tl8, tl9, tl10, tl50, tl81, tl100, tl1000, tl9999, tlm1, tlm9, tlm50, tl2147483647]; omega)) (by first | omega | assumption | (try simp only [tl0, tl1, tl2, tl3, tl4, tl5, tl6, tl8, tl9, tl10, tl50, tl81, tl100, tl1000, tl9999, tlm1, tlm9, tlm50, tl2147483647]; omega))
      · intro h
        have c67 : z37.toInt ≠ 0 := i32ne h
        refine Ok_bind (ok_X8_through i5 f14 i36 (by first | omega | assumption | (try simp only [tl0, tl1, tl2, tl3, tl4, tl5, tl6, tl8, tl9, tl10, tl50, tl81, tl100, tl1000, tl9999, tlm1, tlm9, tlm50, tl2147483647]; omega))) (fun z40 hz40 => ?_)
        refine Ok_nm (fun i41 wi41 => ?_)
        have qi41 := i32eq wi41
        rw [wk38]
        show Ok ((fun i35 i36 => LX8_least_L7 i5 f14 i3 i4 n i35 i36 ) i41 (i36 + (1 : Int32))) _
        try (have e68 := inc_iv (x := i36) (by omega))
        exact ih i41 (i36 + (1 : Int32)) (by first | omega | assumption | (try simp only [tl0, tl1, tl2, tl3, tl4, tl5, tl6, tl8, tl9, tl10, tl50, tl81, tl100, tl1000, tl9999, tlm1, tlm9, tlm50, tl2147483647]; omega)) (by first | omega | assumption | (try simp only [tl0, tl1, tl2, tl3, tl4, tl5, tl6, tl8, tl9, tl10, tl50, tl81, tl100, tl1000, tl9999, tlm1, tlm9, tlm50, tl2147483647]; omega)) (by first | omega | assumption | (try simp only [tl0, tl1, tl2, tl3, tl4, tl5, tl6, tl8, tl9, tl10, tl50, tl81, tl100, tl1000, tl9999, tlm1, tlm9, tlm50, tl2147483647]; omega))
set_option maxRecDepth 4000 in
theorem ok_X8_least (i5 : Int32) (f14 : Nat → Int32) (i3 : Int32) (i4 : Int32) (h0 : 2 ≤ i5.toInt ∧ i5.toInt ≤ 9) : Ok (fX8_least i5 f14 i3 i4) (fun z => True) := by
  unfold fX8_least
  try (have e69 := sh9 (x := i5) (by omega) (by omega))
  refine Ok_mono (okL_X8_least_L7 i5 f14 i3 i4 (by first | omega | assumption | (try simp only [tl0, tl1, tl2, tl3, tl4, tl5, tl6, tl8, tl9, tl10, tl50, tl81, tl100, tl1000, tl9999, tlm1, tlm9, tlm50, tl2147483647]; omega)) 600 (2147483647 : Int32) (0 : Int32) (by first | omega | assumption | (try simp only [tl0, tl1, tl2, tl3, tl4, tl5, tl6, tl8, tl9, tl10, tl50, tl81, tl100, tl1000, tl9999, tlm1, tlm9, tlm50, tl2147483647]; omega)) (by first | omega | assumption | (try simp only [tl0, tl1, tl2, tl3, tl4, tl5, tl6, tl8, tl9, tl10, tl50, tl81, tl100, tl1000, tl9999, tlm1, tlm9, tlm50, tl2147483647]; omega)) (by first | omega | assumption | (try simp only [tl0, tl1, tl2, tl3, tl4, tl5, tl6, tl8, tl9, tl10, tl50, tl81, tl100, tl1000, tl9999, tlm1, tlm9, tlm50, tl2147483647]; omega))) ?_
  intro z hz
  first | exact hz | (simp only [Sx] at *; omega) | (dsimp only at *; omega)
set_option maxRecDepth 4000 in
theorem ok_X8_leastNow (i2 : Int32) (i5 : Int32) (i6 : Int32) (f11 : Nat → Int32) (h0 : 2 ≤ i2.toInt ∧ i2.toInt ≤ 9) (h1 : 0 ≤ i5.toInt ∧ i5.toInt ≤ 8) (h2 : 0 ≤ i6.toInt ∧ i6.toInt ≤ 8) : Ok (fX8_leastNow i2 i5 i6 f11) (fun z => True) := by
  unfold fX8_leastNow
  refine Ok_bind (ok_X8_least i2 f11 i5 i6 (by first | omega | assumption | (try simp only [tl0, tl1, tl2, tl3, tl4, tl5, tl6, tl8, tl9, tl10, tl50, tl81, tl100, tl1000, tl9999, tlm1, tlm9, tlm50, tl2147483647]; omega))) (fun z12 hz12 => ?_)
  exact Ok_some trivial
set_option maxRecDepth 4000 in
theorem okL_X8_leastsNow_L9 (i2 : Int32) (i5 : Int32) (i6 : Int32) (f11 : Nat → Int32) (i31 : Int32)   (g0 : 2 ≤ i2.toInt ∧ i2.toInt ≤ 9) (g1 : 0 ≤ i5.toInt ∧ i5.toInt ≤ 8) (g2 : 0 ≤ i6.toInt ∧ i6.toInt ≤ 8)  : ∀ (n : Nat) (i32 : Int32) (i33 : Int32), 0 ≤ i33.toInt → ((1 : Int32) <<< (i2 &&& 31)).toInt - i33.toInt < n → 0 < n → Ok (LX8_leastsNow_L9 i2 i5 i6 f11 i31 n i32 i33 ) (fun z => True) := by
  intro n
  induction n with
  | zero => intro i32 i33 v0 hm h0; exact absurd h0 (Nat.lt_irrefl 0)
  | succ n ih =>
    intro i32 i33 v0 hm h0
    show Ok (BX8_leastsNow_L9 i2 i5 i6 f11 i31 i32 i33 (fun i32 i33 => LX8_leastsNow_L9 i2 i5 i6 f11 i31 n i32 i33 ) ) _
    unfold BX8_leastsNow_L9
    refine Ok_if ?_ ?_
    · intro h
      try (have e71 := sh9 (x := i2) (by omega) (by omega))
      have c70 : ((1 : Int32) <<< (i2 &&& 31)).toInt ≤ i33.toInt := i32le h
      exact Ok_some trivial
    · intro h
      try (have e73 := sh9 (x := i2) (by omega) (by omega))
      have c72 : i33.toInt < ((1 : Int32) <<< (i2 &&& 31)).toInt := i32nle h
      refine Ok_bind (ok_X8_isCut i33 i5 i6) (fun z34 hz34 => ?_)
      refine Ok_jn (fun k35 wk35 => ?_)
      refine Ok_if ?_ ?_
      · intro h
        have c74 : z34.toInt = 0 := i32eq h
        rw [wk35]
        show Ok ((fun i32 i33 => LX8_leastsNow_L9 i2 i5 i6 f11 i31 n i32 i33 ) i32 (i33 + (1 : Int32))) _
        try (have e75 := inc_iv (x := i33) (by omega))
        exact ih i32 (i33 + (1 : Int32)) (by first | omega | assumption | (try simp only [tl0, tl1, tl2, tl3, tl4, tl5, tl6, tl8, tl9, tl10, tl50, tl81, tl100, tl1000, tl9999, tlm1, tlm9, tlm50, tl2147483647]; omega)) (by first | omega | assumption | (try simp only [tl0, tl1, tl2, tl3, tl4, tl5, tl6, tl8, tl9, tl10, tl50, tl81, tl100, tl1000, tl9999, tlm1, tlm9, tlm50, tl2147483647]; omega)) (by first | omega | assumption | (try simp only [tl0, tl1, tl2, tl3, tl4, tl5, tl6, tl8, tl9, tl10, tl50, tl81, tl100, tl1000, tl9999, tlm1, tlm9, tlm50, tl2147483647]; omega))
      · intro h
        have c76 : z34.toInt ≠ 0 := i32ne h
        refine Ok_bind (ok_X8_through i2 f11 i33 (by first | omega | assumption | (try simp only [tl0, tl1, tl2, tl3, tl4, tl5, tl6, tl8, tl9, tl10, tl50, tl81, tl100, tl1000, tl9999, tlm1, tlm9, tlm50, tl2147483647]; omega))) (fun z37 hz37 => ?_)
        refine Ok_if ?_ ?_
        · intro h
          have c77 : z37.toInt = i31.toInt := i32eq h
          try (have e78 := inc_iv (x := i32) (by omega))
          rw [wk35]
          show Ok ((fun i32 i33 => LX8_leastsNow_L9 i2 i5 i6 f11 i31 n i32 i33 ) (i32 + (1 : Int32)) (i33 + (1 : Int32))) _
          try (have e79 := inc_iv (x := i33) (by omega))
          exact ih (i32 + (1 : Int32)) (i33 + (1 : Int32)) (by first | omega | assumption | (try simp only [tl0, tl1, tl2, tl3, tl4, tl5, tl6, tl8, tl9, tl10, tl50, tl81, tl100, tl1000, tl9999, tlm1, tlm9, tlm50, tl2147483647]; omega)) (by first | omega | assumption | (try simp only [tl0, tl1, tl2, tl3, tl4, tl5, tl6, tl8, tl9, tl10, tl50, tl81, tl100, tl1000, tl9999, tlm1, tlm9, tlm50, tl2147483647]; omega)) (by first | omega | assumption | (try simp only [tl0, tl1, tl2, tl3, tl4, tl5, tl6, tl8, tl9, tl10, tl50, tl81, tl100, tl1000, tl9999, tlm1, tlm9, tlm50, tl2147483647]; omega))
        · intro h
          have c80 : z37.toInt ≠ i31.toInt := i32ne h
          rw [wk35]
          show Ok ((fun i32 i33 => LX8_leastsNow_L9 i2 i5 i6 f11 i31 n i32 i33 ) i32 (i33 + (1 : Int32))) _
          try (have e81 := inc_iv (x := i33) (by omega))
          exact ih i32 (i33 + (1 : Int32)) (by first | omega | assumption | (try simp only [tl0, tl1, tl2, tl3, tl4, tl5, tl6, tl8, tl9, tl10, tl50, tl81, tl100, tl1000, tl9999, tlm1, tlm9, tlm50, tl2147483647]; omega)) (by first | omega | assumption | (try simp only [tl0, tl1, tl2, tl3, tl4, tl5, tl6, tl8, tl9, tl10, tl50, tl81, tl100, tl1000, tl9999, tlm1, tlm9, tlm50, tl2147483647]; omega)) (by first | omega | assumption | (try simp only [tl0, tl1, tl2, tl3, tl4, tl5, tl6, tl8, tl9, tl10, tl50, tl81, tl100, tl1000, tl9999, tlm1, tlm9, tlm50, tl2147483647]; omega))
set_option maxRecDepth 4000 in
theorem ok_X8_leastsNow (i2 : Int32) (i5 : Int32) (i6 : Int32) (f11 : Nat → Int32) (h0 : 2 ≤ i2.toInt ∧ i2.toInt ≤ 9) (h1 : 0 ≤ i5.toInt ∧ i5.toInt ≤ 8) (h2 : 0 ≤ i6.toInt ∧ i6.toInt ≤ 8) : Ok (fX8_leastsNow i2 i5 i6 f11) (fun z => True) := by
  unfold fX8_leastsNow
  refine Ok_bind (ok_X8_leastNow i2 i5 i6 f11 (by first | omega | assumption | (try simp only [tl0, tl1, tl2, tl3, tl4, tl5, tl6, tl8, tl9, tl10, tl50, tl81, tl100, tl1000, tl9999, tlm1, tlm9, tlm50, tl2147483647]; omega)) (by first | omega | assumption | (try simp only [tl0, tl1, tl2, tl3, tl4, tl5, tl6, tl8, tl9, tl10, tl50, tl81, tl100, tl1000, tl9999, tlm1, tlm9, tlm50, tl2147483647]; omega)) (by first | omega | assumption | (try simp only [tl0, tl1, tl2, tl3, tl4, tl5, tl6, tl8, tl9, tl10, tl50, tl81, tl100, tl1000, tl9999, tlm1, tlm9, tlm50, tl2147483647]; omega))) (fun z12 hz12 => ?_)
  try (have e82 := sh9 (x := i2) (by omega) (by omega))
  refine Ok_mono (okL_X8_leastsNow_L9 i2 i5 i6 f11 z12 (by first | omega | assumption | (try simp only [tl0, tl1, tl2, tl3, tl4, tl5, tl6, tl8, tl9, tl10, tl50, tl81, tl100, tl1000, tl9999, tlm1, tlm9, tlm50, tl2147483647]; omega)) (by first | omega | assumption | (try simp only [tl0, tl1, tl2, tl3, tl4, tl5, tl6, tl8, tl9, tl10, tl50, tl81, tl100, tl1000, tl9999, tlm1, tlm9, tlm50, tl2147483647]; omega)) (by first | omega | assumption | (try simp only [tl0, tl1, tl2, tl3, tl4, tl5, tl6, tl8, tl9, tl10, tl50, tl81, tl100, tl1000, tl9999, tlm1, tlm9, tlm50, tl2147483647]; omega)) 600 (0 : Int32) (0 : Int32) (by first | omega | assumption | (try simp only [tl0, tl1, tl2, tl3, tl4, tl5, tl6, tl8, tl9, tl10, tl50, tl81, tl100, tl1000, tl9999, tlm1, tlm9, tlm50, tl2147483647]; omega)) (by first | omega | assumption | (try simp only [tl0, tl1, tl2, tl3, tl4, tl5, tl6, tl8, tl9, tl10, tl50, tl81, tl100, tl1000, tl9999, tlm1, tlm9, tlm50, tl2147483647]; omega)) (by first | omega | assumption | (try simp only [tl0, tl1, tl2, tl3, tl4, tl5, tl6, tl8, tl9, tl10, tl50, tl81, tl100, tl1000, tl9999, tlm1, tlm9, tlm50, tl2147483647]; omega))) ?_
  intro z hz
  first | exact hz | (simp only [Sx] at *; omega) | (dsimp only at *; omega)
set_option maxRecDepth 4000 in
theorem okL_X8_endNow_L25 (i3 : Int32) (i6 : Int32) (i7 : Int32) (f12 : Nat → Int32) (i2 : Int32) (i39 : Int32)   (g0 : 2 ≤ i3.toInt ∧ i3.toInt ≤ 9) (g1 : 0 ≤ i6.toInt ∧ i6.toInt ≤ 8) (g2 : 0 ≤ i7.toInt ∧ i7.toInt ≤ 8)  : ∀ (n : Nat) (i40 : Int32) (i41 : Int32), 0 ≤ i41.toInt → ((1 : Int32) <<< (i3 &&& 31)).toInt - i41.toInt < n → 0 < n → Ok (LX8_endNow_L25 i3 i6 i7 f12 i2 i39 n i40 i41 ) (fun z => True) := by
  intro n
  induction n with
  | zero => intro i40 i41 v0 hm h0; exact absurd h0 (Nat.lt_irrefl 0)
  | succ n ih =>
    intro i40 i41 v0 hm h0
    show Ok (BX8_endNow_L25 i3 i6 i7 f12 i2 i39 i40 i41 (fun i40 i41 => LX8_endNow_L25 i3 i6 i7 f12 i2 i39 n i40 i41 ) ) _
    unfold BX8_endNow_L25
    refine Ok_if ?_ ?_
    · intro h
      try (have e87 := sh9 (x := i3) (by omega) (by omega))
      have c86 : ((1 : Int32) <<< (i3 &&& 31)).toInt ≤ i41.toInt := i32le h
      exact Ok_some trivial
    · intro h
      try (have e89 := sh9 (x := i3) (by omega) (by omega))
      have c88 : i41.toInt < ((1 : Int32) <<< (i3 &&& 31)).toInt := i32nle h
      refine Ok_bind (ok_X8_isCut i41 i6 i7) (fun z42 hz42 => ?_)
      refine Ok_jn (fun k43 wk43 => ?_)
      refine Ok_if ?_ ?_
      · intro h
        have c90 : z42.toInt = 0 := i32eq h
        rw [wk43]
        show Ok ((fun i40 i41 => LX8_endNow_L25 i3 i6 i7 f12 i2 i39 n i40 i41 ) i40 (i41 + (1 : Int32))) _
        try (have e91 := inc_iv (x := i41) (by omega))
        exact ih i40 (i41 + (1 : Int32)) (by first | omega | assumption | (try simp only [tl0, tl1, tl2, tl3, tl4, tl5, tl6, tl8, tl9, tl10, tl50, tl81, tl100, tl1000, tl9999, tlm1, tlm9, tlm50, tl2147483647]; omega)) (by first | omega | assumption | (try simp only [tl0, tl1, tl2, tl3, tl4, tl5, tl6, tl8, tl9, tl10, tl50, tl81, tl100, tl1000, tl9999, tlm1, tlm9, tlm50, tl2147483647]; omega)) (by first | omega | assumption | (try simp only [tl0, tl1, tl2, tl3, tl4, tl5, tl6, tl8, tl9, tl10, tl50, tl81, tl100, tl1000, tl9999, tlm1, tlm9, tlm50, tl2147483647]; omega))
      · intro h
        have c92 : z42.toInt ≠ 0 := i32ne h
        refine Ok_bind (ok_X8_through i3 f12 i41 (by first | omega | assumption | (try simp only [tl0, tl1, tl2, tl3, tl4, tl5, tl6, tl8, tl9, tl10, tl50, tl81, tl100, tl1000, tl9999, tlm1, tlm9, tlm50, tl2147483647]; omega))) (fun z45 hz45 => ?_)
        refine Ok_if ?_ ?_
        · intro h
          have c93 : z45.toInt = i39.toInt := i32eq h
          refine Ok_jn (fun k46 wk46 => ?_)
          refine Ok_if ?_ ?_
          · intro h
            have c94 : i2.toInt = 0 := i32eq h
            rw [wk46]
            show Ok (k43 (i40 &&& i41)) _
            rw [wk43]
            show Ok ((fun i40 i41 => LX8_endNow_L25 i3 i6 i7 f12 i2 i39 n i40 i41 ) (i40 &&& i41) (i41 + (1 : Int32))) _
            try (have e95 := inc_iv (x := i41) (by omega))
            exact ih (i40 &&& i41) (i41 + (1 : Int32)) (by first | omega | assumption | (try simp only [tl0, tl1, tl2, tl3, tl4, tl5, tl6, tl8, tl9, tl10, tl50, tl81, tl100, tl1000, tl9999, tlm1, tlm9, tlm50, tl2147483647]; omega)) (by first | omega | assumption | (try simp only [tl0, tl1, tl2, tl3, tl4, tl5, tl6, tl8, tl9, tl10, tl50, tl81, tl100, tl1000, tl9999, tlm1, tlm9, tlm50, tl2147483647]; omega)) (by first | omega | assumption | (try simp only [tl0, tl1, tl2, tl3, tl4, tl5, tl6, tl8, tl9, tl10, tl50, tl81, tl100, tl1000, tl9999, tlm1, tlm9, tlm50, tl2147483647]; omega))
          · intro h
            have c96 : i2.toInt ≠ 0 := i32ne h
            rw [wk46]
            show Ok (k43 (i40 ||| i41)) _
            rw [wk43]
            show Ok ((fun i40 i41 => LX8_endNow_L25 i3 i6 i7 f12 i2 i39 n i40 i41 ) (i40 ||| i41) (i41 + (1 : Int32))) _
            try (have e97 := inc_iv (x := i41) (by omega))
            exact ih (i40 ||| i41) (i41 + (1 : Int32)) (by first | omega | assumption | (try simp only [tl0, tl1, tl2, tl3, tl4, tl5, tl6, tl8, tl9, tl10, tl50, tl81, tl100, tl1000, tl9999, tlm1, tlm9, tlm50, tl2147483647]; omega)) (by first | omega | assumption | (try simp only [tl0, tl1, tl2, tl3, tl4, tl5, tl6, tl8, tl9, tl10, tl50, tl81, tl100, tl1000, tl9999, tlm1, tlm9, tlm50, tl2147483647]; omega)) (by first | omega | assumption | (try simp only [tl0, tl1, tl2, tl3, tl4, tl5, tl6, tl8, tl9, tl10, tl50, tl81, tl100, tl1000, tl9999, tlm1, tlm9, tlm50, tl2147483647]; omega))
        · intro h
          have c98 : z45.toInt ≠ i39.toInt := i32ne h
          rw [wk43]
          show Ok ((fun i40 i41 => LX8_endNow_L25 i3 i6 i7 f12 i2 i39 n i40 i41 ) i40 (i41 + (1 : Int32))) _
          try (have e99 := inc_iv (x := i41) (by omega))
          exact ih i40 (i41 + (1 : Int32)) (by first | omega | assumption | (try simp only [tl0, tl1, tl2, tl3, tl4, tl5, tl6, tl8, tl9, tl10, tl50, tl81, tl100, tl1000, tl9999, tlm1, tlm9, tlm50, tl2147483647]; omega)) (by first | omega | assumption | (try simp only [tl0, tl1, tl2, tl3, tl4, tl5, tl6, tl8, tl9, tl10, tl50, tl81, tl100, tl1000, tl9999, tlm1, tlm9, tlm50, tl2147483647]; omega)) (by first | omega | assumption | (try simp only [tl0, tl1, tl2, tl3, tl4, tl5, tl6, tl8, tl9, tl10, tl50, tl81, tl100, tl1000, tl9999, tlm1, tlm9, tlm50, tl2147483647]; omega))
set_option maxRecDepth 4000 in
theorem ok_X8_endNow (i3 : Int32) (i6 : Int32) (i7 : Int32) (f12 : Nat → Int32) (i2 : Int32) (h0 : 2 ≤ i3.toInt ∧ i3.toInt ≤ 9) (h1 : 0 ≤ i6.toInt ∧ i6.toInt ≤ 8) (h2 : 0 ≤ i7.toInt ∧ i7.toInt ≤ 8) : Ok (fX8_endNow i3 i6 i7 f12 i2) (fun z => True) := by
  unfold fX8_endNow
  refine Ok_bind (ok_X8_leastNow i3 i6 i7 f12 (by first | omega | assumption | (try simp only [tl0, tl1, tl2, tl3, tl4, tl5, tl6, tl8, tl9, tl10, tl50, tl81, tl100, tl1000, tl9999, tlm1, tlm9, tlm50, tl2147483647]; omega)) (by first | omega | assumption | (try simp only [tl0, tl1, tl2, tl3, tl4, tl5, tl6, tl8, tl9, tl10, tl50, tl81, tl100, tl1000, tl9999, tlm1, tlm9, tlm50, tl2147483647]; omega)) (by first | omega | assumption | (try simp only [tl0, tl1, tl2, tl3, tl4, tl5, tl6, tl8, tl9, tl10, tl50, tl81, tl100, tl1000, tl9999, tlm1, tlm9, tlm50, tl2147483647]; omega))) (fun z13 hz13 => ?_)
  refine Ok_jn (fun k14 wk14 => ?_)
  refine Ok_if ?_ ?_
  · intro h
    have c83 : i2.toInt = 0 := i32eq h
    try (have e84 := sh9 (x := i3) (by omega) (by omega))
    try (have e85 := dec_iv (x := ((1 : Int32) <<< (i3 &&& 31))) (by omega))
    rw [wk14]
    show Ok (LX8_endNow_L25  i3 i6 i7 f12 i2 z13 600 (((1 : Int32) <<< (i3 &&& 31)) - (1 : Int32)) (0 : Int32)) _
    refine Ok_mono (okL_X8_endNow_L25 i3 i6 i7 f12 i2 z13 (by first | omega | assumption | (try simp only [tl0, tl1, tl2, tl3, tl4, tl5, tl6, tl8, tl9, tl10, tl50, tl81, tl100, tl1000, tl9999, tlm1, tlm9, tlm50, tl2147483647]; omega)) (by first | omega | assumption | (try simp only [tl0, tl1, tl2, tl3, tl4, tl5, tl6, tl8, tl9, tl10, tl50, tl81, tl100, tl1000, tl9999, tlm1, tlm9, tlm50, tl2147483647]; omega)) (by first | omega | assumption | (try simp only [tl0, tl1, tl2, tl3, tl4, tl5, tl6, tl8, tl9, tl10, tl50, tl81, tl100, tl1000, tl9999, tlm1, tlm9, tlm50, tl2147483647]; omega)) 600 (((1 : Int32) <<< (i3 &&& 31)) - (1 : Int32)) (0 : Int32) (by first | omega | assumption | (try simp only [tl0, tl1, tl2, tl3, tl4, tl5, tl6, tl8, tl9, tl10, tl50, tl81, tl100, tl1000, tl9999, tlm1, tlm9, tlm50, tl2147483647]; omega)) (by first | omega | assumption | (try simp only [tl0, tl1, tl2, tl3, tl4, tl5, tl6, tl8, tl9, tl10, tl50, tl81, tl100, tl1000, tl9999, tlm1, tlm9, tlm50, tl2147483647]; omega)) (by first | omega | assumption | (try simp only [tl0, tl1, tl2, tl3, tl4, tl5, tl6, tl8, tl9, tl10, tl50, tl81, tl100, tl1000, tl9999, tlm1, tlm9, tlm50, tl2147483647]; omega))) ?_
    intro z hz
    first | exact hz | (simp only [Sx] at *; omega) | (dsimp only at *; omega)
  · intro h
    have c100 : i2.toInt ≠ 0 := i32ne h
    rw [wk14]
    show Ok (LX8_endNow_L25  i3 i6 i7 f12 i2 z13 600 (0 : Int32) (0 : Int32)) _
    try (have e101 := sh9 (x := i3) (by omega) (by omega))
    refine Ok_mono (okL_X8_endNow_L25 i3 i6 i7 f12 i2 z13 (by first | omega | assumption | (try simp only [tl0, tl1, tl2, tl3, tl4, tl5, tl6, tl8, tl9, tl10, tl50, tl81, tl100, tl1000, tl9999, tlm1, tlm9, tlm50, tl2147483647]; omega)) (by first | omega | assumption | (try simp only [tl0, tl1, tl2, tl3, tl4, tl5, tl6, tl8, tl9, tl10, tl50, tl81, tl100, tl1000, tl9999, tlm1, tlm9, tlm50, tl2147483647]; omega)) (by first | omega | assumption | (try simp only [tl0, tl1, tl2, tl3, tl4, tl5, tl6, tl8, tl9, tl10, tl50, tl81, tl100, tl1000, tl9999, tlm1, tlm9, tlm50, tl2147483647]; omega)) 600 (0 : Int32) (0 : Int32) (by first | omega | assumption | (try simp only [tl0, tl1, tl2, tl3, tl4, tl5, tl6, tl8, tl9, tl10, tl50, tl81, tl100, tl1000, tl9999, tlm1, tlm9, tlm50, tl2147483647]; omega)) (by first | omega | assumption | (try simp only [tl0, tl1, tl2, tl3, tl4, tl5, tl6, tl8, tl9, tl10, tl50, tl81, tl100, tl1000, tl9999, tlm1, tlm9, tlm50, tl2147483647]; omega)) (by first | omega | assumption | (try simp only [tl0, tl1, tl2, tl3, tl4, tl5, tl6, tl8, tl9, tl10, tl50, tl81, tl100, tl1000, tl9999, tlm1, tlm9, tlm50, tl2147483647]; omega))) ?_
    intro z hz
    first | exact hz | (simp only [Sx] at *; omega) | (dsimp only at *; omega)
set_option maxRecDepth 4000 in
theorem okL_X8_sumOfRooms_L4 (i2 : Int32) (f11 : Nat → Int32)   (g0 : 2 ≤ i2.toInt ∧ i2.toInt ≤ 9)  : ∀ (n : Nat) (i26 : Int32) (i27 : Int32), 0 ≤ i27.toInt → i2.toInt - i27.toInt < n → 0 < n → Ok (LX8_sumOfRooms_L4 i2 f11 n i26 i27 ) (fun z => True) := by
  intro n
  induction n with
  | zero => intro i26 i27 v0 hm h0; exact absurd h0 (Nat.lt_irrefl 0)
  | succ n ih =>
    intro i26 i27 v0 hm h0
    show Ok (BX8_sumOfRooms_L4 i2 f11 i26 i27 (fun i26 i27 => LX8_sumOfRooms_L4 i2 f11 n i26 i27 ) ) _
    unfold BX8_sumOfRooms_L4
    refine Ok_if ?_ ?_
    · intro h
      have c324 : i2.toInt ≤ i27.toInt := i32le h
      exact Ok_some trivial
    · intro h
      have c325 : i27.toInt < i2.toInt := i32nle h
      refine Ok_bind (ok_X8_fromPlace i2 f11 i27 (by first | omega | assumption | (try simp only [tl0, tl1, tl2, tl3, tl4, tl5, tl6, tl8, tl9, tl10, tl50, tl81, tl100, tl1000, tl9999, tlm1, tlm9, tlm50, tl2147483647]; omega)) (by first | omega | assumption | (try simp only [tl0, tl1, tl2, tl3, tl4, tl5, tl6, tl8, tl9, tl10, tl50, tl81, tl100, tl1000, tl9999, tlm1, tlm9, tlm50, tl2147483647]; omega)) (by first | omega | assumption | (try simp only [tl0, tl1, tl2, tl3, tl4, tl5, tl6, tl8, tl9, tl10, tl50, tl81, tl100, tl1000, tl9999, tlm1, tlm9, tlm50, tl2147483647]; omega))) (fun z28 hz28 => ?_)
      refine Ok_nm (fun i29 wi29 => ?_)
      have qi29 := i32eq wi29
      try (have e326 := inc_iv (x := i27) (by omega))
      exact ih i29 (i27 + (1 : Int32)) (by first | omega | assumption | (try simp only [tl0, tl1, tl2, tl3, tl4, tl5, tl6, tl8, tl9, tl10, tl50, tl81, tl100, tl1000, tl9999, tlm1, tlm9, tlm50, tl2147483647]; omega)) (by first | omega | assumption | (try simp only [tl0, tl1, tl2, tl3, tl4, tl5, tl6, tl8, tl9, tl10, tl50, tl81, tl100, tl1000, tl9999, tlm1, tlm9, tlm50, tl2147483647]; omega)) (by first | omega | assumption | (try simp only [tl0, tl1, tl2, tl3, tl4, tl5, tl6, tl8, tl9, tl10, tl50, tl81, tl100, tl1000, tl9999, tlm1, tlm9, tlm50, tl2147483647]; omega))
set_option maxRecDepth 4000 in
theorem ok_X8_sumOfRooms (i2 : Int32) (f11 : Nat → Int32) (h0 : 2 ≤ i2.toInt ∧ i2.toInt ≤ 9) : Ok (fX8_sumOfRooms i2 f11) (fun z => True) := by
  unfold fX8_sumOfRooms
  refine Ok_mono (okL_X8_sumOfRooms_L4 i2 f11 (by first | omega | assumption | (try simp only [tl0, tl1, tl2, tl3, tl4, tl5, tl6, tl8, tl9, tl10, tl50, tl81, tl100, tl1000, tl9999, tlm1, tlm9, tlm50, tl2147483647]; omega)) 600 (0 : Int32) (0 : Int32) (by first | omega | assumption | (try simp only [tl0, tl1, tl2, tl3, tl4, tl5, tl6, tl8, tl9, tl10, tl50, tl81, tl100, tl1000, tl9999, tlm1, tlm9, tlm50, tl2147483647]; omega)) (by first | omega | assumption | (try simp only [tl0, tl1, tl2, tl3, tl4, tl5, tl6, tl8, tl9, tl10, tl50, tl81, tl100, tl1000, tl9999, tlm1, tlm9, tlm50, tl2147483647]; omega)) (by first | omega | assumption | (try simp only [tl0, tl1, tl2, tl3, tl4, tl5, tl6, tl8, tl9, tl10, tl50, tl81, tl100, tl1000, tl9999, tlm1, tlm9, tlm50, tl2147483647]; omega))) ?_
  intro z hz
  first | exact hz | (simp only [Sx] at *; omega) | (dsimp only at *; omega)
set_option maxRecDepth 4000 in
theorem okL_X8_toldNow_L57 (f12 : Nat → Int32)     : ∀ (n : Nat) (i31 : Int32) (i32 : Int32), 0 ≤ i32.toInt → 81 - i32.toInt < n → 0 < n → Ok (LX8_toldNow_L57 f12 n i31 i32 ) (fun z => True) := by
  intro n
  induction n with
  | zero => intro i31 i32 v0 hm h0; exact absurd h0 (Nat.lt_irrefl 0)
  | succ n ih =>
    intro i31 i32 v0 hm h0
    show Ok (BX8_toldNow_L57 f12 i31 i32 (fun i31 i32 => LX8_toldNow_L57 f12 n i31 i32 ) ) _
    unfold BX8_toldNow_L57
    refine Ok_if ?_ ?_
    · intro h
      have c760 : 81 ≤ i32.toInt := i32le h
      exact Ok_some trivial
    · intro h
      have c761 : i32.toInt < 81 := i32nle h
      refine Ok_inB (vp_of (by first | omega | assumption | (try simp only [tl0, tl1, tl2, tl3, tl4, tl5, tl6, tl8, tl9, tl10, tl50, tl81, tl100, tl1000, tl9999, tlm1, tlm9, tlm50, tl2147483647]; omega)) (by first | omega | assumption | (try simp only [tl0, tl1, tl2, tl3, tl4, tl5, tl6, tl8, tl9, tl10, tl50, tl81, tl100, tl1000, tl9999, tlm1, tlm9, tlm50, tl2147483647]; omega))) ?_
      refine Ok_nm (fun i33 wi33 => ?_)
      have qi33 := i32eq wi33
      refine Ok_jn (fun k34 wk34 => ?_)
      refine Ok_if ?_ ?_
      · intro h
        have c762 : i33.toInt ≤ 0 := i32le h
        rw [wk34]
        show Ok (nm (i31 + (0 : Int32)) (fun (i37 : Int32) => (fun i31 i32 => LX8_toldNow_L57 f12 n i31 i32 ) i37 (i32 + (1 : Int32)))) _
        refine Ok_nm (fun i37 wi37 => ?_)
        have qi37 := i32eq wi37
        try (have e763 := inc_iv (x := i32) (by omega))
        exact ih i37 (i32 + (1 : Int32)) (by first | omega | assumption | (try simp only [tl0, tl1, tl2, tl3, tl4, tl5, tl6, tl8, tl9, tl10, tl50, tl81, tl100, tl1000, tl9999, tlm1, tlm9, tlm50, tl2147483647]; omega)) (by first | omega | assumption | (try simp only [tl0, tl1, tl2, tl3, tl4, tl5, tl6, tl8, tl9, tl10, tl50, tl81, tl100, tl1000, tl9999, tlm1, tlm9, tlm50, tl2147483647]; omega)) (by first | omega | assumption | (try simp only [tl0, tl1, tl2, tl3, tl4, tl5, tl6, tl8, tl9, tl10, tl50, tl81, tl100, tl1000, tl9999, tlm1, tlm9, tlm50, tl2147483647]; omega))
      · intro h
        have c764 : 0 < i33.toInt := i32nle h
        rw [wk34]
        show Ok (nm (i31 + (1 : Int32)) (fun (i37 : Int32) => (fun i31 i32 => LX8_toldNow_L57 f12 n i31 i32 ) i37 (i32 + (1 : Int32)))) _
        try (have e765 := inc_iv (x := i31) (by omega))
        refine Ok_nm (fun i37 wi37 => ?_)
        have qi37 := i32eq wi37
        try (have e766 := inc_iv (x := i32) (by omega))
        exact ih i37 (i32 + (1 : Int32)) (by first | omega | assumption | (try simp only [tl0, tl1, tl2, tl3, tl4, tl5, tl6, tl8, tl9, tl10, tl50, tl81, tl100, tl1000, tl9999, tlm1, tlm9, tlm50, tl2147483647]; omega)) (by first | omega | assumption | (try simp only [tl0, tl1, tl2, tl3, tl4, tl5, tl6, tl8, tl9, tl10, tl50, tl81, tl100, tl1000, tl9999, tlm1, tlm9, tlm50, tl2147483647]; omega)) (by first | omega | assumption | (try simp only [tl0, tl1, tl2, tl3, tl4, tl5, tl6, tl8, tl9, tl10, tl50, tl81, tl100, tl1000, tl9999, tlm1, tlm9, tlm50, tl2147483647]; omega))
set_option maxRecDepth 4000 in
theorem ok_X8_toldNow (i3 : Int32) (i6 : Int32) (i7 : Int32) (f12 : Nat → Int32) (i2 : Int32) (h0 : 2 ≤ i3.toInt ∧ i3.toInt ≤ 9) (h1 : 0 ≤ i6.toInt ∧ i6.toInt ≤ 8) (h2 : 0 ≤ i7.toInt ∧ i7.toInt ≤ 8) : Ok (fX8_toldNow i3 i6 i7 f12 i2) (fun z => True) := by
  unfold fX8_toldNow
  refine Ok_if ?_ ?_
  · intro h
    have c757 : 3 ≤ i2.toInt := i32le h
    refine Ok_if ?_ ?_
    · intro h
      have c758 : i2.toInt = 4 := i32eq h
      refine Ok_bind (ok_X8_sumOfRooms i3 f12 (by first | omega | assumption | (try simp only [tl0, tl1, tl2, tl3, tl4, tl5, tl6, tl8, tl9, tl10, tl50, tl81, tl100, tl1000, tl9999, tlm1, tlm9, tlm50, tl2147483647]; omega))) (fun z38 hz38 => ?_)
      exact Ok_some trivial
    · intro h
      have c759 : i2.toInt ≠ 4 := i32ne h
      refine Ok_mono (okL_X8_toldNow_L57 f12 600 (0 : Int32) (0 : Int32) (by first | omega | assumption | (try simp only [tl0, tl1, tl2, tl3, tl4, tl5, tl6, tl8, tl9, tl10, tl50, tl81, tl100, tl1000, tl9999, tlm1, tlm9, tlm50, tl2147483647]; omega)) (by first | omega | assumption | (try simp only [tl0, tl1, tl2, tl3, tl4, tl5, tl6, tl8, tl9, tl10, tl50, tl81, tl100, tl1000, tl9999, tlm1, tlm9, tlm50, tl2147483647]; omega)) (by first | omega | assumption | (try simp only [tl0, tl1, tl2, tl3, tl4, tl5, tl6, tl8, tl9, tl10, tl50, tl81, tl100, tl1000, tl9999, tlm1, tlm9, tlm50, tl2147483647]; omega))) ?_
      intro z hz
      first | exact hz | (simp only [Sx] at *; omega) | (dsimp only at *; omega)
  · intro h
    have c767 : i2.toInt < 3 := i32nle h
    refine Ok_if ?_ ?_
    · intro h
      have c768 : i2.toInt = 0 := i32eq h
      exact Ok_some trivial
    · intro h
      have c769 : i2.toInt ≠ 0 := i32ne h
      refine Ok_if ?_ ?_
      · intro h
        have c770 : i2.toInt = 1 := i32eq h
        exact Ok_some trivial
      · intro h
        have c771 : i2.toInt ≠ 1 := i32ne h
        exact Ok_some trivial
set_option maxRecDepth 4000 in
theorem ok_X8_told (i3 : Int32) (i6 : Int32) (i7 : Int32) (f12 : Nat → Int32) (i2 : Int32) (h0 : 2 ≤ i3.toInt ∧ i3.toInt ≤ 9) (h1 : 0 ≤ i6.toInt ∧ i6.toInt ≤ 8) (h2 : 0 ≤ i7.toInt ∧ i7.toInt ≤ 8) : Ok (fX8_told i3 i6 i7 f12 i2) (fun z => True) := by
  unfold fX8_told
  refine Ok_jn (fun k13 wk13 => ?_)
  refine Ok_jn (fun k15 wk15 => ?_)
  refine Ok_if ?_ ?_
  · intro h
    have c772 : i2.toInt < 0 := i32lt h
    rw [wk15]
    show Ok (k13 (1 : Int32)) _
    rw [wk13]
    show Ok ((fX8_isThrown_ (1 : Int32)).bind (fun z18 => if z18.1 = (0 : Int32) then ((fX8_toldNow i3 i6 i7 f12 i2).bind (fun z19 => some (z19, z18.2))) else (some ((0 : Int32), z18.2)))) _
    refine Ok_bind (ok_X8_isThrown_ (1 : Int32)) (fun z18 hz18 => ?_)
    try dsimp only at hz18
    try simp only [tl0, tl1, tl2, tl3, tl4, tl5, tl6, tl8, tl9, tl10, tl50, tl81, tl100, tl1000, tl9999, tlm1, tlm9, tlm50, tl2147483647] at hz18
    refine Ok_if ?_ ?_
    · intro h
      have c773 : z18.1.toInt = 0 := i32eq h
      refine Ok_bind (ok_X8_toldNow i3 i6 i7 f12 i2 (by first | omega | assumption | (try simp only [tl0, tl1, tl2, tl3, tl4, tl5, tl6, tl8, tl9, tl10, tl50, tl81, tl100, tl1000, tl9999, tlm1, tlm9, tlm50, tl2147483647]; omega)) (by first | omega | assumption | (try simp only [tl0, tl1, tl2, tl3, tl4, tl5, tl6, tl8, tl9, tl10, tl50, tl81, tl100, tl1000, tl9999, tlm1, tlm9, tlm50, tl2147483647]; omega)) (by first | omega | assumption | (try simp only [tl0, tl1, tl2, tl3, tl4, tl5, tl6, tl8, tl9, tl10, tl50, tl81, tl100, tl1000, tl9999, tlm1, tlm9, tlm50, tl2147483647]; omega))) (fun z19 hz19 => ?_)
      exact Ok_some trivial
    · intro h
      have c774 : z18.1.toInt ≠ 0 := i32ne h
      exact Ok_some trivial
  · intro h
    have c775 : 0 ≤ i2.toInt := i32nlt h
    refine Ok_if ?_ ?_
    · intro h
      have c776 : i2.toInt ≤ 4 := i32le h
      rw [wk13]
      show Ok ((fX8_isThrown_ (0 : Int32)).bind (fun z18 => if z18.1 = (0 : Int32) then ((fX8_toldNow i3 i6 i7 f12 i2).bind (fun z19 => some (z19, z18.2))) else (some ((0 : Int32), z18.2)))) _
      refine Ok_bind (ok_X8_isThrown_ (0 : Int32)) (fun z18 hz18 => ?_)
      try dsimp only at hz18
      try simp only [tl0, tl1, tl2, tl3, tl4, tl5, tl6, tl8, tl9, tl10, tl50, tl81, tl100, tl1000, tl9999, tlm1, tlm9, tlm50, tl2147483647] at hz18
      refine Ok_if ?_ ?_
      · intro h
        have c777 : z18.1.toInt = 0 := i32eq h
        refine Ok_bind (ok_X8_toldNow i3 i6 i7 f12 i2 (by first | omega | assumption | (try simp only [tl0, tl1, tl2, tl3, tl4, tl5, tl6, tl8, tl9, tl10, tl50, tl81, tl100, tl1000, tl9999, tlm1, tlm9, tlm50, tl2147483647]; omega)) (by first | omega | assumption | (try simp only [tl0, tl1, tl2, tl3, tl4, tl5, tl6, tl8, tl9, tl10, tl50, tl81, tl100, tl1000, tl9999, tlm1, tlm9, tlm50, tl2147483647]; omega)) (by first | omega | assumption | (try simp only [tl0, tl1, tl2, tl3, tl4, tl5, tl6, tl8, tl9, tl10, tl50, tl81, tl100, tl1000, tl9999, tlm1, tlm9, tlm50, tl2147483647]; omega))) (fun z19 hz19 => ?_)
        exact Ok_some trivial
      · intro h
        have c778 : z18.1.toInt ≠ 0 := i32ne h
        exact Ok_some trivial
    · intro h
      have c779 : 4 < i2.toInt := i32nle h
      rw [wk15]
      show Ok (k13 (1 : Int32)) _
      rw [wk13]
      show Ok ((fX8_isThrown_ (1 : Int32)).bind (fun z18 => if z18.1 = (0 : Int32) then ((fX8_toldNow i3 i6 i7 f12 i2).bind (fun z19 => some (z19, z18.2))) else (some ((0 : Int32), z18.2)))) _
      refine Ok_bind (ok_X8_isThrown_ (1 : Int32)) (fun z18 hz18 => ?_)
      try dsimp only at hz18
      try simp only [tl0, tl1, tl2, tl3, tl4, tl5, tl6, tl8, tl9, tl10, tl50, tl81, tl100, tl1000, tl9999, tlm1, tlm9, tlm50, tl2147483647] at hz18
      refine Ok_if ?_ ?_
      · intro h
        have c780 : z18.1.toInt = 0 := i32eq h
        refine Ok_bind (ok_X8_toldNow i3 i6 i7 f12 i2 (by first | omega | assumption | (try simp only [tl0, tl1, tl2, tl3, tl4, tl5, tl6, tl8, tl9, tl10, tl50, tl81, tl100, tl1000, tl9999, tlm1, tlm9, tlm50, tl2147483647]; omega)) (by first | omega | assumption | (try simp only [tl0, tl1, tl2, tl3, tl4, tl5, tl6, tl8, tl9, tl10, tl50, tl81, tl100, tl1000, tl9999, tlm1, tlm9, tlm50, tl2147483647]; omega)) (by first | omega | assumption | (try simp only [tl0, tl1, tl2, tl3, tl4, tl5, tl6, tl8, tl9, tl10, tl50, tl81, tl100, tl1000, tl9999, tlm1, tlm9, tlm50, tl2147483647]; omega))) (fun z19 hz19 => ?_)
        exact Ok_some trivial
      · intro h
        have c781 : z18.1.toInt ≠ 0 := i32ne h
        exact Ok_some trivial
set_option maxRecDepth 4000 in
theorem ok_X8_pairNow (f14 : Nat → Int32) (f15 : Nat → Int32) (i2 : Int32) (i3 : Int32) (i4 : Int32) (h0 : 0 ≤ i2.toInt) (h1 : i2.toInt ≤ 8) (h2 : 0 ≤ i3.toInt) (h3 : i3.toInt ≤ 8) : Ok (fX8_pairNow f14 f15 i2 i3 i4) (fun z => True) := by
  unfold fX8_pairNow
  refine Ok_if ?_ ?_
  · intro h
    have c782 : i2.toInt = i3.toInt := i32eq h
    exact Ok_some trivial
  · intro h
    have c783 : i2.toInt ≠ i3.toInt := i32ne h
    refine Ok_if ?_ ?_
    · intro h
      have c784 : i4.toInt = 0 := i32eq h
      refine Ok_bind (ok_X8_room f14 i2 i3 (by first | omega | assumption | (try simp only [tl0, tl1, tl2, tl3, tl4, tl5, tl6, tl8, tl9, tl10, tl50, tl81, tl100, tl1000, tl9999, tlm1, tlm9, tlm50, tl2147483647]; omega)) (by first | omega | assumption | (try simp only [tl0, tl1, tl2, tl3, tl4, tl5, tl6, tl8, tl9, tl10, tl50, tl81, tl100, tl1000, tl9999, tlm1, tlm9, tlm50, tl2147483647]; omega)) (by first | omega | assumption | (try simp only [tl0, tl1, tl2, tl3, tl4, tl5, tl6, tl8, tl9, tl10, tl50, tl81, tl100, tl1000, tl9999, tlm1, tlm9, tlm50, tl2147483647]; omega)) (by first | omega | assumption | (try simp only [tl0, tl1, tl2, tl3, tl4, tl5, tl6, tl8, tl9, tl10, tl50, tl81, tl100, tl1000, tl9999, tlm1, tlm9, tlm50, tl2147483647]; omega))) (fun z18 hz18 => ?_)
      exact Ok_some trivial
    · intro h
      have c785 : i4.toInt ≠ 0 := i32ne h
      refine Ok_if ?_ ?_
      · intro h
        have c786 : i4.toInt = 1 := i32eq h
        refine Ok_bind (ok_X8_flow f15 i2 i3 (by first | omega | assumption | (try simp only [tl0, tl1, tl2, tl3, tl4, tl5, tl6, tl8, tl9, tl10, tl50, tl81, tl100, tl1000, tl9999, tlm1, tlm9, tlm50, tl2147483647]; omega)) (by first | omega | assumption | (try simp only [tl0, tl1, tl2, tl3, tl4, tl5, tl6, tl8, tl9, tl10, tl50, tl81, tl100, tl1000, tl9999, tlm1, tlm9, tlm50, tl2147483647]; omega)) (by first | omega | assumption | (try simp only [tl0, tl1, tl2, tl3, tl4, tl5, tl6, tl8, tl9, tl10, tl50, tl81, tl100, tl1000, tl9999, tlm1, tlm9, tlm50, tl2147483647]; omega)) (by first | omega | assumption | (try simp only [tl0, tl1, tl2, tl3, tl4, tl5, tl6, tl8, tl9, tl10, tl50, tl81, tl100, tl1000, tl9999, tlm1, tlm9, tlm50, tl2147483647]; omega))) (fun z17 hz17 => ?_)
        exact Ok_some trivial
      · intro h
        have c787 : i4.toInt ≠ 1 := i32ne h
        refine Ok_bind (ok_X8_left f14 f15 i2 i3 (by first | omega | assumption | (try simp only [tl0, tl1, tl2, tl3, tl4, tl5, tl6, tl8, tl9, tl10, tl50, tl81, tl100, tl1000, tl9999, tlm1, tlm9, tlm50, tl2147483647]; omega)) (by first | omega | assumption | (try simp only [tl0, tl1, tl2, tl3, tl4, tl5, tl6, tl8, tl9, tl10, tl50, tl81, tl100, tl1000, tl9999, tlm1, tlm9, tlm50, tl2147483647]; omega)) (by first | omega | assumption | (try simp only [tl0, tl1, tl2, tl3, tl4, tl5, tl6, tl8, tl9, tl10, tl50, tl81, tl100, tl1000, tl9999, tlm1, tlm9, tlm50, tl2147483647]; omega)) (by first | omega | assumption | (try simp only [tl0, tl1, tl2, tl3, tl4, tl5, tl6, tl8, tl9, tl10, tl50, tl81, tl100, tl1000, tl9999, tlm1, tlm9, tlm50, tl2147483647]; omega))) (fun z16 hz16 => ?_)
        exact Ok_some trivial
set_option maxRecDepth 4000 in
theorem ok_X8_pair (i5 : Int32) (f14 : Nat → Int32) (f15 : Nat → Int32) (i2 : Int32) (i3 : Int32) (i4 : Int32) (h0 : 2 ≤ i5.toInt ∧ i5.toInt ≤ 9) : Ok (fX8_pair i5 f14 f15 i2 i3 i4) (fun z => True) := by
  unfold fX8_pair
  refine Ok_bind (ok_X8_isPlace i5 i2 (by first | omega | assumption | (try simp only [tl0, tl1, tl2, tl3, tl4, tl5, tl6, tl8, tl9, tl10, tl50, tl81, tl100, tl1000, tl9999, tlm1, tlm9, tlm50, tl2147483647]; omega))) (fun z16 hz16 => ?_)
  try dsimp only at hz16
  try simp only [tl0, tl1, tl2, tl3, tl4, tl5, tl6, tl8, tl9, tl10, tl50, tl81, tl100, tl1000, tl9999, tlm1, tlm9, tlm50, tl2147483647] at hz16
  refine Ok_jn (fun k17 wk17 => ?_)
  refine Ok_jn (fun k19 wk19 => ?_)
  refine Ok_if ?_ ?_
  · intro h
    have c788 : z16.toInt = 0 := i32eq h
    rw [wk19]
    show Ok (k17 (1 : Int32)) _
    rw [wk17]
    show Ok (jn (fun (i27 : Int32) => (fX8_isThrown (1 : Int32) i27).bind (fun z28 => if z28.1 = (0 : Int32) then ((fX8_pairNow f14 f15 i2 i3 i4).bind (fun z29 => some (z29, z28.2))) else (some ((0 : Int32), z28.2)))) (fun (k23 : Int32 → Option (Int32 × Int32)) => jn (fun (_ : Unit) => k23 (1 : Int32)) (fun (k25 : Unit → Option (Int32 × Int32)) => if i4 < (0 : Int32) then (k25 ()) else (if i4 ≤ (2 : Int32) then (k23 (0 : Int32)) else (k25 ()))))) _
    refine Ok_jn (fun k23 wk23 => ?_)
    refine Ok_jn (fun k25 wk25 => ?_)
    refine Ok_if ?_ ?_
    · intro h
      have c789 : i4.toInt < 0 := i32lt h
      rw [wk25]
      show Ok (k23 (1 : Int32)) _
      rw [wk23]
      show Ok ((fX8_isThrown (1 : Int32) (1 : Int32)).bind (fun z28 => if z28.1 = (0 : Int32) then ((fX8_pairNow f14 f15 i2 i3 i4).bind (fun z29 => some (z29, z28.2))) else (some ((0 : Int32), z28.2)))) _
      refine Ok_bind (ok_X8_isThrown (1 : Int32) (1 : Int32)) (fun z28 hz28 => ?_)
      try dsimp only at hz28
      try simp only [tl0, tl1, tl2, tl3, tl4, tl5, tl6, tl8, tl9, tl10, tl50, tl81, tl100, tl1000, tl9999, tlm1, tlm9, tlm50, tl2147483647] at hz28
      refine Ok_if ?_ ?_
      · intro h
        have c790 : z28.1.toInt = 0 := i32eq h
        refine Ok_bind (ok_X8_pairNow f14 f15 i2 i3 i4 (by first | omega | assumption | (try simp only [tl0, tl1, tl2, tl3, tl4, tl5, tl6, tl8, tl9, tl10, tl50, tl81, tl100, tl1000, tl9999, tlm1, tlm9, tlm50, tl2147483647]; omega)) (by first | omega | assumption | (try simp only [tl0, tl1, tl2, tl3, tl4, tl5, tl6, tl8, tl9, tl10, tl50, tl81, tl100, tl1000, tl9999, tlm1, tlm9, tlm50, tl2147483647]; omega)) (by first | omega | assumption | (try simp only [tl0, tl1, tl2, tl3, tl4, tl5, tl6, tl8, tl9, tl10, tl50, tl81, tl100, tl1000, tl9999, tlm1, tlm9, tlm50, tl2147483647]; omega)) (by first | omega | assumption | (try simp only [tl0, tl1, tl2, tl3, tl4, tl5, tl6, tl8, tl9, tl10, tl50, tl81, tl100, tl1000, tl9999, tlm1, tlm9, tlm50, tl2147483647]; omega))) (fun z29 hz29 => ?_)
        exact Ok_some trivial
      · intro h
        have c791 : z28.1.toInt ≠ 0 := i32ne h
        exact Ok_some trivial
    · intro h
      have c792 : 0 ≤ i4.toInt := i32nlt h
      refine Ok_if ?_ ?_
      · intro h
        have c793 : i4.toInt ≤ 2 := i32le h
        rw [wk23]
        show Ok ((fX8_isThrown (1 : Int32) (0 : Int32)).bind (fun z28 => if z28.1 = (0 : Int32) then ((fX8_pairNow f14 f15 i2 i3 i4).bind (fun z29 => some (z29, z28.2))) else (some ((0 : Int32), z28.2)))) _
        refine Ok_bind (ok_X8_isThrown (1 : Int32) (0 : Int32)) (fun z28 hz28 => ?_)
        try dsimp only at hz28
        try simp only [tl0, tl1, tl2, tl3, tl4, tl5, tl6, tl8, tl9, tl10, tl50, tl81, tl100, tl1000, tl9999, tlm1, tlm9, tlm50, tl2147483647] at hz28
        refine Ok_if ?_ ?_
        · intro h
          have c794 : z28.1.toInt = 0 := i32eq h
          refine Ok_bind (ok_X8_pairNow f14 f15 i2 i3 i4 (by first | omega | assumption | (try simp only [tl0, tl1, tl2, tl3, tl4, tl5, tl6, tl8, tl9, tl10, tl50, tl81, tl100, tl1000, tl9999, tlm1, tlm9, tlm50, tl2147483647]; omega)) (by first | omega | assumption | (try simp only [tl0, tl1, tl2, tl3, tl4, tl5, tl6, tl8, tl9, tl10, tl50, tl81, tl100, tl1000, tl9999, tlm1, tlm9, tlm50, tl2147483647]; omega)) (by first | omega | assumption | (try simp only [tl0, tl1, tl2, tl3, tl4, tl5, tl6, tl8, tl9, tl10, tl50, tl81, tl100, tl1000, tl9999, tlm1, tlm9, tlm50, tl2147483647]; omega)) (by first | omega | assumption | (try simp only [tl0, tl1, tl2, tl3, tl4, tl5, tl6, tl8, tl9, tl10, tl50, tl81, tl100, tl1000, tl9999, tlm1, tlm9, tlm50, tl2147483647]; omega))) (fun z29 hz29 => ?_)
          exact Ok_some trivial
        · intro h
          have c795 : z28.1.toInt ≠ 0 := i32ne h
          exact Ok_some trivial
      · intro h
        have c796 : 2 < i4.toInt := i32nle h
        rw [wk25]
        show Ok (k23 (1 : Int32)) _
        rw [wk23]
        show Ok ((fX8_isThrown (1 : Int32) (1 : Int32)).bind (fun z28 => if z28.1 = (0 : Int32) then ((fX8_pairNow f14 f15 i2 i3 i4).bind (fun z29 => some (z29, z28.2))) else (some ((0 : Int32), z28.2)))) _
        refine Ok_bind (ok_X8_isThrown (1 : Int32) (1 : Int32)) (fun z28 hz28 => ?_)
        try dsimp only at hz28
        try simp only [tl0, tl1, tl2, tl3, tl4, tl5, tl6, tl8, tl9, tl10, tl50, tl81, tl100, tl1000, tl9999, tlm1, tlm9, tlm50, tl2147483647] at hz28
        refine Ok_if ?_ ?_
        · intro h
          have c797 : z28.1.toInt = 0 := i32eq h
          refine Ok_bind (ok_X8_pairNow f14 f15 i2 i3 i4 (by first | omega | assumption | (try simp only [tl0, tl1, tl2, tl3, tl4, tl5, tl6, tl8, tl9, tl10, tl50, tl81, tl100, tl1000, tl9999, tlm1, tlm9, tlm50, tl2147483647]; omega)) (by first | omega | assumption | (try simp only [tl0, tl1, tl2, tl3, tl4, tl5, tl6, tl8, tl9, tl10, tl50, tl81, tl100, tl1000, tl9999, tlm1, tlm9, tlm50, tl2147483647]; omega)) (by first | omega | assumption | (try simp only [tl0, tl1, tl2, tl3, tl4, tl5, tl6, tl8, tl9, tl10, tl50, tl81, tl100, tl1000, tl9999, tlm1, tlm9, tlm50, tl2147483647]; omega)) (by first | omega | assumption | (try simp only [tl0, tl1, tl2, tl3, tl4, tl5, tl6, tl8, tl9, tl10, tl50, tl81, tl100, tl1000, tl9999, tlm1, tlm9, tlm50, tl2147483647]; omega))) (fun z29 hz29 => ?_)
          exact Ok_some trivial
        · intro h
          have c798 : z28.1.toInt ≠ 0 := i32ne h
          exact Ok_some trivial
  · intro h
    have c799 : z16.toInt ≠ 0 := i32ne h
    refine Ok_bind (ok_X8_isPlace i5 i3 (by first | omega | assumption | (try simp only [tl0, tl1, tl2, tl3, tl4, tl5, tl6, tl8, tl9, tl10, tl50, tl81, tl100, tl1000, tl9999, tlm1, tlm9, tlm50, tl2147483647]; omega))) (fun z21 hz21 => ?_)
    try dsimp only at hz21
    try simp only [tl0, tl1, tl2, tl3, tl4, tl5, tl6, tl8, tl9, tl10, tl50, tl81, tl100, tl1000, tl9999, tlm1, tlm9, tlm50, tl2147483647] at hz21
    refine Ok_if ?_ ?_
    · intro h
      have c800 : z21.toInt = 0 := i32eq h
      rw [wk19]
      show Ok (k17 (1 : Int32)) _
      rw [wk17]
      show Ok (jn (fun (i27 : Int32) => (fX8_isThrown (1 : Int32) i27).bind (fun z28 => if z28.1 = (0 : Int32) then ((fX8_pairNow f14 f15 i2 i3 i4).bind (fun z29 => some (z29, z28.2))) else (some ((0 : Int32), z28.2)))) (fun (k23 : Int32 → Option (Int32 × Int32)) => jn (fun (_ : Unit) => k23 (1 : Int32)) (fun (k25 : Unit → Option (Int32 × Int32)) => if i4 < (0 : Int32) then (k25 ()) else (if i4 ≤ (2 : Int32) then (k23 (0 : Int32)) else (k25 ()))))) _
      refine Ok_jn (fun k23 wk23 => ?_)
      refine Ok_jn (fun k25 wk25 => ?_)
      refine Ok_if ?_ ?_
      · intro h
        have c801 : i4.toInt < 0 := i32lt h
        rw [wk25]
        show Ok (k23 (1 : Int32)) _
        rw [wk23]
        show Ok ((fX8_isThrown (1 : Int32) (1 : Int32)).bind (fun z28 => if z28.1 = (0 : Int32) then ((fX8_pairNow f14 f15 i2 i3 i4).bind (fun z29 => some (z29, z28.2))) else (some ((0 : Int32), z28.2)))) _
        refine Ok_bind (ok_X8_isThrown (1 : Int32) (1 : Int32)) (fun z28 hz28 => ?_)
        try dsimp only at hz28
        try simp only [tl0, tl1, tl2, tl3, tl4, tl5, tl6, tl8, tl9, tl10, tl50, tl81, tl100, tl1000, tl9999, tlm1, tlm9, tlm50, tl2147483647] at hz28
        refine Ok_if ?_ ?_
        · intro h
          have c802 : z28.1.toInt = 0 := i32eq h
          refine Ok_bind (ok_X8_pairNow f14 f15 i2 i3 i4 (by first | omega | assumption | (try simp only [tl0, tl1, tl2, tl3, tl4, tl5, tl6, tl8, tl9, tl10, tl50, tl81, tl100, tl1000, tl9999, tlm1, tlm9, tlm50, tl2147483647]; omega)) (by first | omega | assumption | (try simp only [tl0, tl1, tl2, tl3, tl4, tl5, tl6, tl8, tl9, tl10, tl50, tl81, tl100, tl1000, tl9999, tlm1, tlm9, tlm50, tl2147483647]; omega)) (by first | omega | assumption | (try simp only [tl0, tl1, tl2, tl3, tl4, tl5, tl6, tl8, tl9, tl10, tl50, tl81, tl100, tl1000, tl9999, tlm1, tlm9, tlm50, tl2147483647]; omega)) (by first | omega | assumption | (try simp only [tl0, tl1, tl2, tl3, tl4, tl5, tl6, tl8, tl9, tl10, tl50, tl81, tl100, tl1000, tl9999, tlm1, tlm9, tlm50, tl2147483647]; omega))) (fun z29 hz29 => ?_)
          exact Ok_some trivial
        · intro h
          have c803 : z28.1.toInt ≠ 0 := i32ne h
          exact Ok_some trivial
      · intro h
        have c804 : 0 ≤ i4.toInt := i32nlt h
        refine Ok_if ?_ ?_
        · intro h
          have c805 : i4.toInt ≤ 2 := i32le h
          rw [wk23]
          show Ok ((fX8_isThrown (1 : Int32) (0 : Int32)).bind (fun z28 => if z28.1 = (0 : Int32) then ((fX8_pairNow f14 f15 i2 i3 i4).bind (fun z29 => some (z29, z28.2))) else (some ((0 : Int32), z28.2)))) _
          refine Ok_bind (ok_X8_isThrown (1 : Int32) (0 : Int32)) (fun z28 hz28 => ?_)
          try dsimp only at hz28
          try simp only [tl0, tl1, tl2, tl3, tl4, tl5, tl6, tl8, tl9, tl10, tl50, tl81, tl100, tl1000, tl9999, tlm1, tlm9, tlm50, tl2147483647] at hz28
          refine Ok_if ?_ ?_
          · intro h
            have c806 : z28.1.toInt = 0 := i32eq h
            refine Ok_bind (ok_X8_pairNow f14 f15 i2 i3 i4 (by first | omega | assumption | (try simp only [tl0, tl1, tl2, tl3, tl4, tl5, tl6, tl8, tl9, tl10, tl50, tl81, tl100, tl1000, tl9999, tlm1, tlm9, tlm50, tl2147483647]; omega)) (by first | omega | assumption | (try simp only [tl0, tl1, tl2, tl3, tl4, tl5, tl6, tl8, tl9, tl10, tl50, tl81, tl100, tl1000, tl9999, tlm1, tlm9, tlm50, tl2147483647]; omega)) (by first | omega | assumption | (try simp only [tl0, tl1, tl2, tl3, tl4, tl5, tl6, tl8, tl9, tl10, tl50, tl81, tl100, tl1000, tl9999, tlm1, tlm9, tlm50, tl2147483647]; omega)) (by first | omega | assumption | (try simp only [tl0, tl1, tl2, tl3, tl4, tl5, tl6, tl8, tl9, tl10, tl50, tl81, tl100, tl1000, tl9999, tlm1, tlm9, tlm50, tl2147483647]; omega))) (fun z29 hz29 => ?_)
            exact Ok_some trivial
          · intro h
            have c807 : z28.1.toInt ≠ 0 := i32ne h
            exact Ok_some trivial
        · intro h
          have c808 : 2 < i4.toInt := i32nle h
          rw [wk25]
          show Ok (k23 (1 : Int32)) _
          rw [wk23]
          show Ok ((fX8_isThrown (1 : Int32) (1 : Int32)).bind (fun z28 => if z28.1 = (0 : Int32) then ((fX8_pairNow f14 f15 i2 i3 i4).bind (fun z29 => some (z29, z28.2))) else (some ((0 : Int32), z28.2)))) _
          refine Ok_bind (ok_X8_isThrown (1 : Int32) (1 : Int32)) (fun z28 hz28 => ?_)
          try dsimp only at hz28
          try simp only [tl0, tl1, tl2, tl3, tl4, tl5, tl6, tl8, tl9, tl10, tl50, tl81, tl100, tl1000, tl9999, tlm1, tlm9, tlm50, tl2147483647] at hz28
          refine Ok_if ?_ ?_
          · intro h
            have c809 : z28.1.toInt = 0 := i32eq h
            refine Ok_bind (ok_X8_pairNow f14 f15 i2 i3 i4 (by first | omega | assumption | (try simp only [tl0, tl1, tl2, tl3, tl4, tl5, tl6, tl8, tl9, tl10, tl50, tl81, tl100, tl1000, tl9999, tlm1, tlm9, tlm50, tl2147483647]; omega)) (by first | omega | assumption | (try simp only [tl0, tl1, tl2, tl3, tl4, tl5, tl6, tl8, tl9, tl10, tl50, tl81, tl100, tl1000, tl9999, tlm1, tlm9, tlm50, tl2147483647]; omega)) (by first | omega | assumption | (try simp only [tl0, tl1, tl2, tl3, tl4, tl5, tl6, tl8, tl9, tl10, tl50, tl81, tl100, tl1000, tl9999, tlm1, tlm9, tlm50, tl2147483647]; omega)) (by first | omega | assumption | (try simp only [tl0, tl1, tl2, tl3, tl4, tl5, tl6, tl8, tl9, tl10, tl50, tl81, tl100, tl1000, tl9999, tlm1, tlm9, tlm50, tl2147483647]; omega))) (fun z29 hz29 => ?_)
            exact Ok_some trivial
          · intro h
            have c810 : z28.1.toInt ≠ 0 := i32ne h
            exact Ok_some trivial
    · intro h
      have c811 : z21.toInt ≠ 0 := i32ne h
      rw [wk17]
      show Ok (jn (fun (i27 : Int32) => (fX8_isThrown (0 : Int32) i27).bind (fun z28 => if z28.1 = (0 : Int32) then ((fX8_pairNow f14 f15 i2 i3 i4).bind (fun z29 => some (z29, z28.2))) else (some ((0 : Int32), z28.2)))) (fun (k23 : Int32 → Option (Int32 × Int32)) => jn (fun (_ : Unit) => k23 (1 : Int32)) (fun (k25 : Unit → Option (Int32 × Int32)) => if i4 < (0 : Int32) then (k25 ()) else (if i4 ≤ (2 : Int32) then (k23 (0 : Int32)) else (k25 ()))))) _
      refine Ok_jn (fun k23 wk23 => ?_)
      refine Ok_jn (fun k25 wk25 => ?_)
      refine Ok_if ?_ ?_
      · intro h
        have c812 : i4.toInt < 0 := i32lt h
        rw [wk25]
        show Ok (k23 (1 : Int32)) _
        rw [wk23]
        show Ok ((fX8_isThrown (0 : Int32) (1 : Int32)).bind (fun z28 => if z28.1 = (0 : Int32) then ((fX8_pairNow f14 f15 i2 i3 i4).bind (fun z29 => some (z29, z28.2))) else (some ((0 : Int32), z28.2)))) _
        refine Ok_bind (ok_X8_isThrown (0 : Int32) (1 : Int32)) (fun z28 hz28 => ?_)
        try dsimp only at hz28
        try simp only [tl0, tl1, tl2, tl3, tl4, tl5, tl6, tl8, tl9, tl10, tl50, tl81, tl100, tl1000, tl9999, tlm1, tlm9, tlm50, tl2147483647] at hz28
        refine Ok_if ?_ ?_
        · intro h
          have c813 : z28.1.toInt = 0 := i32eq h
          refine Ok_bind (ok_X8_pairNow f14 f15 i2 i3 i4 (by first | omega | assumption | (try simp only [tl0, tl1, tl2, tl3, tl4, tl5, tl6, tl8, tl9, tl10, tl50, tl81, tl100, tl1000, tl9999, tlm1, tlm9, tlm50, tl2147483647]; omega)) (by first | omega | assumption | (try simp only [tl0, tl1, tl2, tl3, tl4, tl5, tl6, tl8, tl9, tl10, tl50, tl81, tl100, tl1000, tl9999, tlm1, tlm9, tlm50, tl2147483647]; omega)) (by first | omega | assumption | (try simp only [tl0, tl1, tl2, tl3, tl4, tl5, tl6, tl8, tl9, tl10, tl50, tl81, tl100, tl1000, tl9999, tlm1, tlm9, tlm50, tl2147483647]; omega)) (by first | omega | assumption | (try simp only [tl0, tl1, tl2, tl3, tl4, tl5, tl6, tl8, tl9, tl10, tl50, tl81, tl100, tl1000, tl9999, tlm1, tlm9, tlm50, tl2147483647]; omega))) (fun z29 hz29 => ?_)
          exact Ok_some trivial
        · intro h
          have c814 : z28.1.toInt ≠ 0 := i32ne h
          exact Ok_some trivial
      · intro h
        have c815 : 0 ≤ i4.toInt := i32nlt h
        refine Ok_if ?_ ?_
        · intro h
          have c816 : i4.toInt ≤ 2 := i32le h
          rw [wk23]
          show Ok ((fX8_isThrown (0 : Int32) (0 : Int32)).bind (fun z28 => if z28.1 = (0 : Int32) then ((fX8_pairNow f14 f15 i2 i3 i4).bind (fun z29 => some (z29, z28.2))) else (some ((0 : Int32), z28.2)))) _
          refine Ok_bind (ok_X8_isThrown (0 : Int32) (0 : Int32)) (fun z28 hz28 => ?_)
          try dsimp only at hz28
          try simp only [tl0, tl1, tl2, tl3, tl4, tl5, tl6, tl8, tl9, tl10, tl50, tl81, tl100, tl1000, tl9999, tlm1, tlm9, tlm50, tl2147483647] at hz28
          refine Ok_if ?_ ?_
          · intro h
            have c817 : z28.1.toInt = 0 := i32eq h
            refine Ok_bind (ok_X8_pairNow f14 f15 i2 i3 i4 (by first | omega | assumption | (try simp only [tl0, tl1, tl2, tl3, tl4, tl5, tl6, tl8, tl9, tl10, tl50, tl81, tl100, tl1000, tl9999, tlm1, tlm9, tlm50, tl2147483647]; omega)) (by first | omega | assumption | (try simp only [tl0, tl1, tl2, tl3, tl4, tl5, tl6, tl8, tl9, tl10, tl50, tl81, tl100, tl1000, tl9999, tlm1, tlm9, tlm50, tl2147483647]; omega)) (by first | omega | assumption | (try simp only [tl0, tl1, tl2, tl3, tl4, tl5, tl6, tl8, tl9, tl10, tl50, tl81, tl100, tl1000, tl9999, tlm1, tlm9, tlm50, tl2147483647]; omega)) (by first | omega | assumption | (try simp only [tl0, tl1, tl2, tl3, tl4, tl5, tl6, tl8, tl9, tl10, tl50, tl81, tl100, tl1000, tl9999, tlm1, tlm9, tlm50, tl2147483647]; omega))) (fun z29 hz29 => ?_)
            exact Ok_some trivial
          · intro h
            have c818 : z28.1.toInt ≠ 0 := i32ne h
            exact Ok_some trivial
        · intro h
          have c819 : 2 < i4.toInt := i32nle h
          rw [wk25]
          show Ok (k23 (1 : Int32)) _
          rw [wk23]
          show Ok ((fX8_isThrown (0 : Int32) (1 : Int32)).bind (fun z28 => if z28.1 = (0 : Int32) then ((fX8_pairNow f14 f15 i2 i3 i4).bind (fun z29 => some (z29, z28.2))) else (some ((0 : Int32), z28.2)))) _
          refine Ok_bind (ok_X8_isThrown (0 : Int32) (1 : Int32)) (fun z28 hz28 => ?_)
          try dsimp only at hz28
          try simp only [tl0, tl1, tl2, tl3, tl4, tl5, tl6, tl8, tl9, tl10, tl50, tl81, tl100, tl1000, tl9999, tlm1, tlm9, tlm50, tl2147483647] at hz28
          refine Ok_if ?_ ?_
          · intro h
            have c820 : z28.1.toInt = 0 := i32eq h
            refine Ok_bind (ok_X8_pairNow f14 f15 i2 i3 i4 (by first | omega | assumption | (try simp only [tl0, tl1, tl2, tl3, tl4, tl5, tl6, tl8, tl9, tl10, tl50, tl81, tl100, tl1000, tl9999, tlm1, tlm9, tlm50, tl2147483647]; omega)) (by first | omega | assumption | (try simp only [tl0, tl1, tl2, tl3, tl4, tl5, tl6, tl8, tl9, tl10, tl50, tl81, tl100, tl1000, tl9999, tlm1, tlm9, tlm50, tl2147483647]; omega)) (by first | omega | assumption | (try simp only [tl0, tl1, tl2, tl3, tl4, tl5, tl6, tl8, tl9, tl10, tl50, tl81, tl100, tl1000, tl9999, tlm1, tlm9, tlm50, tl2147483647]; omega)) (by first | omega | assumption | (try simp only [tl0, tl1, tl2, tl3, tl4, tl5, tl6, tl8, tl9, tl10, tl50, tl81, tl100, tl1000, tl9999, tlm1, tlm9, tlm50, tl2147483647]; omega))) (fun z29 hz29 => ?_)
            exact Ok_some trivial
          · intro h
            have c821 : z28.1.toInt ≠ 0 := i32ne h
            exact Ok_some trivial
set_option maxRecDepth 4000 in
theorem okL_X8_ofPlaceNow_L5 (i4 : Int32) (f13 : Nat → Int32) (f14 : Nat → Int32) (i2 : Int32) (i3 : Int32)   (g0 : 2 ≤ i4.toInt ∧ i4.toInt ≤ 9) (g1 : 0 ≤ i2.toInt) (g2 : i2.toInt ≤ 8)  : ∀ (n : Nat) (i38 : Int32) (i39 : Int32), 0 ≤ i39.toInt → i4.toInt - i39.toInt < n → 0 < n → Ok (LX8_ofPlaceNow_L5 i4 f13 f14 i2 i3 n i38 i39 ) (fun z => True) := by
  intro n
  induction n with
  | zero => intro i38 i39 v0 hm h0; exact absurd h0 (Nat.lt_irrefl 0)
  | succ n ih =>
    intro i38 i39 v0 hm h0
    show Ok (BX8_ofPlaceNow_L5 i4 f13 f14 i2 i3 i38 i39 (fun i38 i39 => LX8_ofPlaceNow_L5 i4 f13 f14 i2 i3 n i38 i39 ) ) _
    unfold BX8_ofPlaceNow_L5
    refine Ok_if ?_ ?_
    · intro h
      have c822 : i4.toInt ≤ i39.toInt := i32le h
      exact Ok_some trivial
    · intro h
      have c823 : i39.toInt < i4.toInt := i32nle h
      refine Ok_jn (fun k40 wk40 => ?_)
      refine Ok_if ?_ ?_
      · intro h
        have c824 : i3.toInt = 0 := i32eq h
        refine Ok_bind (ok_X8_room f13 i2 i39 (by first | omega | assumption | (try simp only [tl0, tl1, tl2, tl3, tl4, tl5, tl6, tl8, tl9, tl10, tl50, tl81, tl100, tl1000, tl9999, tlm1, tlm9, tlm50, tl2147483647]; omega)) (by first | omega | assumption | (try simp only [tl0, tl1, tl2, tl3, tl4, tl5, tl6, tl8, tl9, tl10, tl50, tl81, tl100, tl1000, tl9999, tlm1, tlm9, tlm50, tl2147483647]; omega)) (by first | omega | assumption | (try simp only [tl0, tl1, tl2, tl3, tl4, tl5, tl6, tl8, tl9, tl10, tl50, tl81, tl100, tl1000, tl9999, tlm1, tlm9, tlm50, tl2147483647]; omega)) (by first | omega | assumption | (try simp only [tl0, tl1, tl2, tl3, tl4, tl5, tl6, tl8, tl9, tl10, tl50, tl81, tl100, tl1000, tl9999, tlm1, tlm9, tlm50, tl2147483647]; omega))) (fun z45 hz45 => ?_)
        rw [wk40]
        show Ok (nm (i38 + z45) (fun (i47 : Int32) => (fun i38 i39 => LX8_ofPlaceNow_L5 i4 f13 f14 i2 i3 n i38 i39 ) i47 (i39 + (1 : Int32)))) _
        refine Ok_nm (fun i47 wi47 => ?_)
        have qi47 := i32eq wi47
        try (have e825 := inc_iv (x := i39) (by omega))
        exact ih i47 (i39 + (1 : Int32)) (by first | omega | assumption | (try simp only [tl0, tl1, tl2, tl3, tl4, tl5, tl6, tl8, tl9, tl10, tl50, tl81, tl100, tl1000, tl9999, tlm1, tlm9, tlm50, tl2147483647]; omega)) (by first | omega | assumption | (try simp only [tl0, tl1, tl2, tl3, tl4, tl5, tl6, tl8, tl9, tl10, tl50, tl81, tl100, tl1000, tl9999, tlm1, tlm9, tlm50, tl2147483647]; omega)) (by first | omega | assumption | (try simp only [tl0, tl1, tl2, tl3, tl4, tl5, tl6, tl8, tl9, tl10, tl50, tl81, tl100, tl1000, tl9999, tlm1, tlm9, tlm50, tl2147483647]; omega))
      · intro h
        have c826 : i3.toInt ≠ 0 := i32ne h
        refine Ok_if ?_ ?_
        · intro h
          have c827 : i3.toInt = 1 := i32eq h
          refine Ok_bind (ok_X8_room f13 i39 i2 (by first | omega | assumption | (try simp only [tl0, tl1, tl2, tl3, tl4, tl5, tl6, tl8, tl9, tl10, tl50, tl81, tl100, tl1000, tl9999, tlm1, tlm9, tlm50, tl2147483647]; omega)) (by first | omega | assumption | (try simp only [tl0, tl1, tl2, tl3, tl4, tl5, tl6, tl8, tl9, tl10, tl50, tl81, tl100, tl1000, tl9999, tlm1, tlm9, tlm50, tl2147483647]; omega)) (by first | omega | assumption | (try simp only [tl0, tl1, tl2, tl3, tl4, tl5, tl6, tl8, tl9, tl10, tl50, tl81, tl100, tl1000, tl9999, tlm1, tlm9, tlm50, tl2147483647]; omega)) (by first | omega | assumption | (try simp only [tl0, tl1, tl2, tl3, tl4, tl5, tl6, tl8, tl9, tl10, tl50, tl81, tl100, tl1000, tl9999, tlm1, tlm9, tlm50, tl2147483647]; omega))) (fun z44 hz44 => ?_)
          rw [wk40]
          show Ok (nm (i38 + z44) (fun (i47 : Int32) => (fun i38 i39 => LX8_ofPlaceNow_L5 i4 f13 f14 i2 i3 n i38 i39 ) i47 (i39 + (1 : Int32)))) _
          refine Ok_nm (fun i47 wi47 => ?_)
          have qi47 := i32eq wi47
          try (have e828 := inc_iv (x := i39) (by omega))
          exact ih i47 (i39 + (1 : Int32)) (by first | omega | assumption | (try simp only [tl0, tl1, tl2, tl3, tl4, tl5, tl6, tl8, tl9, tl10, tl50, tl81, tl100, tl1000, tl9999, tlm1, tlm9, tlm50, tl2147483647]; omega)) (by first | omega | assumption | (try simp only [tl0, tl1, tl2, tl3, tl4, tl5, tl6, tl8, tl9, tl10, tl50, tl81, tl100, tl1000, tl9999, tlm1, tlm9, tlm50, tl2147483647]; omega)) (by first | omega | assumption | (try simp only [tl0, tl1, tl2, tl3, tl4, tl5, tl6, tl8, tl9, tl10, tl50, tl81, tl100, tl1000, tl9999, tlm1, tlm9, tlm50, tl2147483647]; omega))
        · intro h
          have c829 : i3.toInt ≠ 1 := i32ne h
          refine Ok_if ?_ ?_
          · intro h
            have c830 : i3.toInt = 2 := i32eq h
            refine Ok_bind (ok_X8_flow f14 i2 i39 (by first | omega | assumption | (try simp only [tl0, tl1, tl2, tl3, tl4, tl5, tl6, tl8, tl9, tl10, tl50, tl81, tl100, tl1000, tl9999, tlm1, tlm9, tlm50, tl2147483647]; omega)) (by first | omega | assumption | (try simp only [tl0, tl1, tl2, tl3, tl4, tl5, tl6, tl8, tl9, tl10, tl50, tl81, tl100, tl1000, tl9999, tlm1, tlm9, tlm50, tl2147483647]; omega)) (by first | omega | assumption | (try simp only [tl0, tl1, tl2, tl3, tl4, tl5, tl6, tl8, tl9, tl10, tl50, tl81, tl100, tl1000, tl9999, tlm1, tlm9, tlm50, tl2147483647]; omega)) (by first | omega | assumption | (try simp only [tl0, tl1, tl2, tl3, tl4, tl5, tl6, tl8, tl9, tl10, tl50, tl81, tl100, tl1000, tl9999, tlm1, tlm9, tlm50, tl2147483647]; omega))) (fun z43 hz43 => ?_)
            rw [wk40]
            show Ok (nm (i38 + z43) (fun (i47 : Int32) => (fun i38 i39 => LX8_ofPlaceNow_L5 i4 f13 f14 i2 i3 n i38 i39 ) i47 (i39 + (1 : Int32)))) _
            refine Ok_nm (fun i47 wi47 => ?_)
            have qi47 := i32eq wi47
            try (have e831 := inc_iv (x := i39) (by omega))
            exact ih i47 (i39 + (1 : Int32)) (by first | omega | assumption | (try simp only [tl0, tl1, tl2, tl3, tl4, tl5, tl6, tl8, tl9, tl10, tl50, tl81, tl100, tl1000, tl9999, tlm1, tlm9, tlm50, tl2147483647]; omega)) (by first | omega | assumption | (try simp only [tl0, tl1, tl2, tl3, tl4, tl5, tl6, tl8, tl9, tl10, tl50, tl81, tl100, tl1000, tl9999, tlm1, tlm9, tlm50, tl2147483647]; omega)) (by first | omega | assumption | (try simp only [tl0, tl1, tl2, tl3, tl4, tl5, tl6, tl8, tl9, tl10, tl50, tl81, tl100, tl1000, tl9999, tlm1, tlm9, tlm50, tl2147483647]; omega))
          · intro h
            have c832 : i3.toInt ≠ 2 := i32ne h
            refine Ok_bind (ok_X8_flow f14 i2 i39 (by first | omega | assumption | (try simp only [tl0, tl1, tl2, tl3, tl4, tl5, tl6, tl8, tl9, tl10, tl50, tl81, tl100, tl1000, tl9999, tlm1, tlm9, tlm50, tl2147483647]; omega)) (by first | omega | assumption | (try simp only [tl0, tl1, tl2, tl3, tl4, tl5, tl6, tl8, tl9, tl10, tl50, tl81, tl100, tl1000, tl9999, tlm1, tlm9, tlm50, tl2147483647]; omega)) (by first | omega | assumption | (try simp only [tl0, tl1, tl2, tl3, tl4, tl5, tl6, tl8, tl9, tl10, tl50, tl81, tl100, tl1000, tl9999, tlm1, tlm9, tlm50, tl2147483647]; omega)) (by first | omega | assumption | (try simp only [tl0, tl1, tl2, tl3, tl4, tl5, tl6, tl8, tl9, tl10, tl50, tl81, tl100, tl1000, tl9999, tlm1, tlm9, tlm50, tl2147483647]; omega))) (fun z42 hz42 => ?_)
            rw [wk40]
            show Ok (nm (i38 + (if (0 : Int32) < z42 then z42 else (0 : Int32))) (fun (i47 : Int32) => (fun i38 i39 => LX8_ofPlaceNow_L5 i4 f13 f14 i2 i3 n i38 i39 ) i47 (i39 + (1 : Int32)))) _
            refine Ok_nm (fun i47 wi47 => ?_)
            have qi47 := i32eq wi47
            try (have e833 := inc_iv (x := i39) (by omega))
            exact ih i47 (i39 + (1 : Int32)) (by first | omega | assumption | (try simp only [tl0, tl1, tl2, tl3, tl4, tl5, tl6, tl8, tl9, tl10, tl50, tl81, tl100, tl1000, tl9999, tlm1, tlm9, tlm50, tl2147483647]; omega)) (by first | omega | assumption | (try simp only [tl0, tl1, tl2, tl3, tl4, tl5, tl6, tl8, tl9, tl10, tl50, tl81, tl100, tl1000, tl9999, tlm1, tlm9, tlm50, tl2147483647]; omega)) (by first | omega | assumption | (try simp only [tl0, tl1, tl2, tl3, tl4, tl5, tl6, tl8, tl9, tl10, tl50, tl81, tl100, tl1000, tl9999, tlm1, tlm9, tlm50, tl2147483647]; omega))
set_option maxRecDepth 4000 in
theorem ok_X8_ofPlaceNow (i4 : Int32) (f13 : Nat → Int32) (f14 : Nat → Int32) (i2 : Int32) (i3 : Int32) (h0 : 2 ≤ i4.toInt ∧ i4.toInt ≤ 9) (h1 : 0 ≤ i2.toInt) (h2 : i2.toInt ≤ 8) : Ok (fX8_ofPlaceNow i4 f13 f14 i2 i3) (fun z => True) := by
  unfold fX8_ofPlaceNow
  refine Ok_mono (okL_X8_ofPlaceNow_L5 i4 f13 f14 i2 i3 (by first | omega | assumption | (try simp only [tl0, tl1, tl2, tl3, tl4, tl5, tl6, tl8, tl9, tl10, tl50, tl81, tl100, tl1000, tl9999, tlm1, tlm9, tlm50, tl2147483647]; omega)) (by first | omega | assumption | (try simp only [tl0, tl1, tl2, tl3, tl4, tl5, tl6, tl8, tl9, tl10, tl50, tl81, tl100, tl1000, tl9999, tlm1, tlm9, tlm50, tl2147483647]; omega)) (by first | omega | assumption | (try simp only [tl0, tl1, tl2, tl3, tl4, tl5, tl6, tl8, tl9, tl10, tl50, tl81, tl100, tl1000, tl9999, tlm1, tlm9, tlm50, tl2147483647]; omega)) 600 (0 : Int32) (0 : Int32) (by first | omega | assumption | (try simp only [tl0, tl1, tl2, tl3, tl4, tl5, tl6, tl8, tl9, tl10, tl50, tl81, tl100, tl1000, tl9999, tlm1, tlm9, tlm50, tl2147483647]; omega)) (by first | omega | assumption | (try simp only [tl0, tl1, tl2, tl3, tl4, tl5, tl6, tl8, tl9, tl10, tl50, tl81, tl100, tl1000, tl9999, tlm1, tlm9, tlm50, tl2147483647]; omega)) (by first | omega | assumption | (try simp only [tl0, tl1, tl2, tl3, tl4, tl5, tl6, tl8, tl9, tl10, tl50, tl81, tl100, tl1000, tl9999, tlm1, tlm9, tlm50, tl2147483647]; omega))) ?_
  intro z hz
  first | exact hz | (simp only [Sx] at *; omega) | (dsimp only at *; omega)
set_option maxRecDepth 4000 in
theorem ok_X8_ofPlace (i4 : Int32) (f13 : Nat → Int32) (f14 : Nat → Int32) (i2 : Int32) (i3 : Int32) (h0 : 2 ≤ i4.toInt ∧ i4.toInt ≤ 9) : Ok (fX8_ofPlace i4 f13 f14 i2 i3) (fun z => True) := by
  unfold fX8_ofPlace
  refine Ok_bind (ok_X8_isPlace i4 i2 (by first | omega | assumption | (try simp only [tl0, tl1, tl2, tl3, tl4, tl5, tl6, tl8, tl9, tl10, tl50, tl81, tl100, tl1000, tl9999, tlm1, tlm9, tlm50, tl2147483647]; omega))) (fun z15 hz15 => ?_)
  try dsimp only at hz15
  try simp only [tl0, tl1, tl2, tl3, tl4, tl5, tl6, tl8, tl9, tl10, tl50, tl81, tl100, tl1000, tl9999, tlm1, tlm9, tlm50, tl2147483647] at hz15
  refine Ok_jn (fun k16 wk16 => ?_)
  refine Ok_if ?_ ?_
  · intro h
    have c834 : z15.toInt = 0 := i32eq h
    rw [wk16]
    show Ok (jn (fun (i23 : Int32) => (fX8_isThrown (1 : Int32) i23).bind (fun z24 => if z24.1 = (0 : Int32) then ((fX8_ofPlaceNow i4 f13 f14 i2 i3).bind (fun z25 => some (z25, z24.2))) else (some ((0 : Int32), z24.2)))) (fun (k19 : Int32 → Option (Int32 × Int32)) => jn (fun (_ : Unit) => k19 (1 : Int32)) (fun (k21 : Unit → Option (Int32 × Int32)) => if i3 < (0 : Int32) then (k21 ()) else (if i3 ≤ (3 : Int32) then (k19 (0 : Int32)) else (k21 ()))))) _
    refine Ok_jn (fun k19 wk19 => ?_)
    refine Ok_jn (fun k21 wk21 => ?_)
    refine Ok_if ?_ ?_
    · intro h
      have c835 : i3.toInt < 0 := i32lt h
      rw [wk21]
      show Ok (k19 (1 : Int32)) _
      rw [wk19]
      show Ok ((fX8_isThrown (1 : Int32) (1 : Int32)).bind (fun z24 => if z24.1 = (0 : Int32) then ((fX8_ofPlaceNow i4 f13 f14 i2 i3).bind (fun z25 => some (z25, z24.2))) else (some ((0 : Int32), z24.2)))) _
      refine Ok_bind (ok_X8_isThrown (1 : Int32) (1 : Int32)) (fun z24 hz24 => ?_)
      try dsimp only at hz24
      try simp only [tl0, tl1, tl2, tl3, tl4, tl5, tl6, tl8, tl9, tl10, tl50, tl81, tl100, tl1000, tl9999, tlm1, tlm9, tlm50, tl2147483647] at hz24
      refine Ok_if ?_ ?_
      · intro h
        have c836 : z24.1.toInt = 0 := i32eq h
        refine Ok_bind (ok_X8_ofPlaceNow i4 f13 f14 i2 i3 (by first | omega | assumption | (try simp only [tl0, tl1, tl2, tl3, tl4, tl5, tl6, tl8, tl9, tl10, tl50, tl81, tl100, tl1000, tl9999, tlm1, tlm9, tlm50, tl2147483647]; omega)) (by first | omega | assumption | (try simp only [tl0, tl1, tl2, tl3, tl4, tl5, tl6, tl8, tl9, tl10, tl50, tl81, tl100, tl1000, tl9999, tlm1, tlm9, tlm50, tl2147483647]; omega)) (by first | omega | assumption | (try simp only [tl0, tl1, tl2, tl3, tl4, tl5, tl6, tl8, tl9, tl10, tl50, tl81, tl100, tl1000, tl9999, tlm1, tlm9, tlm50, tl2147483647]; omega))) (fun z25 hz25 => ?_)
        exact Ok_some trivial
      · intro h
        have c837 : z24.1.toInt ≠ 0 := i32ne h
        exact Ok_some trivial
    · intro h
      have c838 : 0 ≤ i3.toInt := i32nlt h
      refine Ok_if ?_ ?_
      · intro h
        have c839 : i3.toInt ≤ 3 := i32le h
        rw [wk19]
        show Ok ((fX8_isThrown (1 : Int32) (0 : Int32)).bind (fun z24 => if z24.1 = (0 : Int32) then ((fX8_ofPlaceNow i4 f13 f14 i2 i3).bind (fun z25 => some (z25, z24.2))) else (some ((0 : Int32), z24.2)))) _
        refine Ok_bind (ok_X8_isThrown (1 : Int32) (0 : Int32)) (fun z24 hz24 => ?_)
        try dsimp only at hz24
        try simp only [tl0, tl1, tl2, tl3, tl4, tl5, tl6, tl8, tl9, tl10, tl50, tl81, tl100, tl1000, tl9999, tlm1, tlm9, tlm50, tl2147483647] at hz24
        refine Ok_if ?_ ?_
        · intro h
          have c840 : z24.1.toInt = 0 := i32eq h
          refine Ok_bind (ok_X8_ofPlaceNow i4 f13 f14 i2 i3 (by first | omega | assumption | (try simp only [tl0, tl1, tl2, tl3, tl4, tl5, tl6, tl8, tl9, tl10, tl50, tl81, tl100, tl1000, tl9999, tlm1, tlm9, tlm50, tl2147483647]; omega)) (by first | omega | assumption | (try simp only [tl0, tl1, tl2, tl3, tl4, tl5, tl6, tl8, tl9, tl10, tl50, tl81, tl100, tl1000, tl9999, tlm1, tlm9, tlm50, tl2147483647]; omega)) (by first | omega | assumption | (try simp only [tl0, tl1, tl2, tl3, tl4, tl5, tl6, tl8, tl9, tl10, tl50, tl81, tl100, tl1000, tl9999, tlm1, tlm9, tlm50, tl2147483647]; omega))) (fun z25 hz25 => ?_)
          exact Ok_some trivial
        · intro h
          have c841 : z24.1.toInt ≠ 0 := i32ne h
          exact Ok_some trivial
      · intro h
        have c842 : 3 < i3.toInt := i32nle h
        rw [wk21]
        show Ok (k19 (1 : Int32)) _
        rw [wk19]
        show Ok ((fX8_isThrown (1 : Int32) (1 : Int32)).bind (fun z24 => if z24.1 = (0 : Int32) then ((fX8_ofPlaceNow i4 f13 f14 i2 i3).bind (fun z25 => some (z25, z24.2))) else (some ((0 : Int32), z24.2)))) _
        refine Ok_bind (ok_X8_isThrown (1 : Int32) (1 : Int32)) (fun z24 hz24 => ?_)
        try dsimp only at hz24
        try simp only [tl0, tl1, tl2, tl3, tl4, tl5, tl6, tl8, tl9, tl10, tl50, tl81, tl100, tl1000, tl9999, tlm1, tlm9, tlm50, tl2147483647] at hz24
        refine Ok_if ?_ ?_
        · intro h
          have c843 : z24.1.toInt = 0 := i32eq h
          refine Ok_bind (ok_X8_ofPlaceNow i4 f13 f14 i2 i3 (by first | omega | assumption | (try simp only [tl0, tl1, tl2, tl3, tl4, tl5, tl6, tl8, tl9, tl10, tl50, tl81, tl100, tl1000, tl9999, tlm1, tlm9, tlm50, tl2147483647]; omega)) (by first | omega | assumption | (try simp only [tl0, tl1, tl2, tl3, tl4, tl5, tl6, tl8, tl9, tl10, tl50, tl81, tl100, tl1000, tl9999, tlm1, tlm9, tlm50, tl2147483647]; omega)) (by first | omega | assumption | (try simp only [tl0, tl1, tl2, tl3, tl4, tl5, tl6, tl8, tl9, tl10, tl50, tl81, tl100, tl1000, tl9999, tlm1, tlm9, tlm50, tl2147483647]; omega))) (fun z25 hz25 => ?_)
          exact Ok_some trivial
        · intro h
          have c844 : z24.1.toInt ≠ 0 := i32ne h
          exact Ok_some trivial
  · intro h
    have c845 : z15.toInt ≠ 0 := i32ne h
    rw [wk16]
    show Ok (jn (fun (i23 : Int32) => (fX8_isThrown (0 : Int32) i23).bind (fun z24 => if z24.1 = (0 : Int32) then ((fX8_ofPlaceNow i4 f13 f14 i2 i3).bind (fun z25 => some (z25, z24.2))) else (some ((0 : Int32), z24.2)))) (fun (k19 : Int32 → Option (Int32 × Int32)) => jn (fun (_ : Unit) => k19 (1 : Int32)) (fun (k21 : Unit → Option (Int32 × Int32)) => if i3 < (0 : Int32) then (k21 ()) else (if i3 ≤ (3 : Int32) then (k19 (0 : Int32)) else (k21 ()))))) _
    refine Ok_jn (fun k19 wk19 => ?_)
    refine Ok_jn (fun k21 wk21 => ?_)
    refine Ok_if ?_ ?_
    · intro h
      have c846 : i3.toInt < 0 := i32lt h
      rw [wk21]
      show Ok (k19 (1 : Int32)) _
      rw [wk19]
      show Ok ((fX8_isThrown (0 : Int32) (1 : Int32)).bind (fun z24 => if z24.1 = (0 : Int32) then ((fX8_ofPlaceNow i4 f13 f14 i2 i3).bind (fun z25 => some (z25, z24.2))) else (some ((0 : Int32), z24.2)))) _
      refine Ok_bind (ok_X8_isThrown (0 : Int32) (1 : Int32)) (fun z24 hz24 => ?_)
      try dsimp only at hz24
      try simp only [tl0, tl1, tl2, tl3, tl4, tl5, tl6, tl8, tl9, tl10, tl50, tl81, tl100, tl1000, tl9999, tlm1, tlm9, tlm50, tl2147483647] at hz24
      refine Ok_if ?_ ?_
      · intro h
        have c847 : z24.1.toInt = 0 := i32eq h
        refine Ok_bind (ok_X8_ofPlaceNow i4 f13 f14 i2 i3 (by first | omega | assumption | (try simp only [tl0, tl1, tl2, tl3, tl4, tl5, tl6, tl8, tl9, tl10, tl50, tl81, tl100, tl1000, tl9999, tlm1, tlm9, tlm50, tl2147483647]; omega)) (by first | omega | assumption | (try simp only [tl0, tl1, tl2, tl3, tl4, tl5, tl6, tl8, tl9, tl10, tl50, tl81, tl100, tl1000, tl9999, tlm1, tlm9, tlm50, tl2147483647]; omega)) (by first | omega | assumption | (try simp only [tl0, tl1, tl2, tl3, tl4, tl5, tl6, tl8, tl9, tl10, tl50, tl81, tl100, tl1000, tl9999, tlm1, tlm9, tlm50, tl2147483647]; omega))) (fun z25 hz25 => ?_)
        exact Ok_some trivial
      · intro h
        have c848 : z24.1.toInt ≠ 0 := i32ne h
        exact Ok_some trivial
    · intro h
      have c849 : 0 ≤ i3.toInt := i32nlt h
      refine Ok_if ?_ ?_
      · intro h
        have c850 : i3.toInt ≤ 3 := i32le h
        rw [wk19]
        show Ok ((fX8_isThrown (0 : Int32) (0 : Int32)).bind (fun z24 => if z24.1 = (0 : Int32) then ((fX8_ofPlaceNow i4 f13 f14 i2 i3).bind (fun z25 => some (z25, z24.2))) else (some ((0 : Int32), z24.2)))) _
        refine Ok_bind (ok_X8_isThrown (0 : Int32) (0 : Int32)) (fun z24 hz24 => ?_)
        try dsimp only at hz24
        try simp only [tl0, tl1, tl2, tl3, tl4, tl5, tl6, tl8, tl9, tl10, tl50, tl81, tl100, tl1000, tl9999, tlm1, tlm9, tlm50, tl2147483647] at hz24
        refine Ok_if ?_ ?_
        · intro h
          have c851 : z24.1.toInt = 0 := i32eq h
          refine Ok_bind (ok_X8_ofPlaceNow i4 f13 f14 i2 i3 (by first | omega | assumption | (try simp only [tl0, tl1, tl2, tl3, tl4, tl5, tl6, tl8, tl9, tl10, tl50, tl81, tl100, tl1000, tl9999, tlm1, tlm9, tlm50, tl2147483647]; omega)) (by first | omega | assumption | (try simp only [tl0, tl1, tl2, tl3, tl4, tl5, tl6, tl8, tl9, tl10, tl50, tl81, tl100, tl1000, tl9999, tlm1, tlm9, tlm50, tl2147483647]; omega)) (by first | omega | assumption | (try simp only [tl0, tl1, tl2, tl3, tl4, tl5, tl6, tl8, tl9, tl10, tl50, tl81, tl100, tl1000, tl9999, tlm1, tlm9, tlm50, tl2147483647]; omega))) (fun z25 hz25 => ?_)
          exact Ok_some trivial
        · intro h
          have c852 : z24.1.toInt ≠ 0 := i32ne h
          exact Ok_some trivial
      · intro h
        have c853 : 3 < i3.toInt := i32nle h
        rw [wk21]
        show Ok (k19 (1 : Int32)) _
        rw [wk19]
        show Ok ((fX8_isThrown (0 : Int32) (1 : Int32)).bind (fun z24 => if z24.1 = (0 : Int32) then ((fX8_ofPlaceNow i4 f13 f14 i2 i3).bind (fun z25 => some (z25, z24.2))) else (some ((0 : Int32), z24.2)))) _
        refine Ok_bind (ok_X8_isThrown (0 : Int32) (1 : Int32)) (fun z24 hz24 => ?_)
        try dsimp only at hz24
        try simp only [tl0, tl1, tl2, tl3, tl4, tl5, tl6, tl8, tl9, tl10, tl50, tl81, tl100, tl1000, tl9999, tlm1, tlm9, tlm50, tl2147483647] at hz24
        refine Ok_if ?_ ?_
        · intro h
          have c854 : z24.1.toInt = 0 := i32eq h
          refine Ok_bind (ok_X8_ofPlaceNow i4 f13 f14 i2 i3 (by first | omega | assumption | (try simp only [tl0, tl1, tl2, tl3, tl4, tl5, tl6, tl8, tl9, tl10, tl50, tl81, tl100, tl1000, tl9999, tlm1, tlm9, tlm50, tl2147483647]; omega)) (by first | omega | assumption | (try simp only [tl0, tl1, tl2, tl3, tl4, tl5, tl6, tl8, tl9, tl10, tl50, tl81, tl100, tl1000, tl9999, tlm1, tlm9, tlm50, tl2147483647]; omega)) (by first | omega | assumption | (try simp only [tl0, tl1, tl2, tl3, tl4, tl5, tl6, tl8, tl9, tl10, tl50, tl81, tl100, tl1000, tl9999, tlm1, tlm9, tlm50, tl2147483647]; omega))) (fun z25 hz25 => ?_)
          exact Ok_some trivial
        · intro h
          have c855 : z24.1.toInt ≠ 0 := i32ne h
          exact Ok_some trivial
set_option maxRecDepth 4000 in
theorem ok_X8_cut (i3 : Int32) (i6 : Int32) (i7 : Int32) (f12 : Nat → Int32) (i2 : Int32) (h0 : 2 ≤ i3.toInt ∧ i3.toInt ≤ 9) (h1 : 0 ≤ i6.toInt ∧ i6.toInt ≤ 8) (h2 : 0 ≤ i7.toInt ∧ i7.toInt ≤ 8) : Ok (fX8_cut i3 i6 i7 f12 i2) (fun z => True) := by
  unfold fX8_cut
  refine Ok_bind (ok_X8_isSet i3 i2 (by first | omega | assumption | (try simp only [tl0, tl1, tl2, tl3, tl4, tl5, tl6, tl8, tl9, tl10, tl50, tl81, tl100, tl1000, tl9999, tlm1, tlm9, tlm50, tl2147483647]; omega))) (fun z13 hz13 => ?_)
  refine Ok_jn (fun k14 wk14 => ?_)
  refine Ok_if ?_ ?_
  · intro h
    have c856 : z13.toInt = 0 := i32eq h
    rw [wk14]
    show Ok ((fX8_isThrown_ (1 : Int32)).bind (fun z17 => if z17.1 = (0 : Int32) then ((fX8_isCut i2 i6 i7).bind (fun z18 => if z18 = (0 : Int32) then (some ((-9 : Int32), z17.2)) else ((fX8_through i3 f12 i2).bind (fun z19 => some (z19, z17.2))))) else (some ((0 : Int32), z17.2)))) _
    refine Ok_bind (ok_X8_isThrown_ (1 : Int32)) (fun z17 hz17 => ?_)
    try dsimp only at hz17
    try simp only [tl0, tl1, tl2, tl3, tl4, tl5, tl6, tl8, tl9, tl10, tl50, tl81, tl100, tl1000, tl9999, tlm1, tlm9, tlm50, tl2147483647] at hz17
    refine Ok_if ?_ ?_
    · intro h
      have c857 : z17.1.toInt = 0 := i32eq h
      refine Ok_bind (ok_X8_isCut i2 i6 i7) (fun z18 hz18 => ?_)
      refine Ok_if ?_ ?_
      · intro h
        have c858 : z18.toInt = 0 := i32eq h
        exact Ok_some trivial
      · intro h
        have c859 : z18.toInt ≠ 0 := i32ne h
        refine Ok_bind (ok_X8_through i3 f12 i2 (by first | omega | assumption | (try simp only [tl0, tl1, tl2, tl3, tl4, tl5, tl6, tl8, tl9, tl10, tl50, tl81, tl100, tl1000, tl9999, tlm1, tlm9, tlm50, tl2147483647]; omega))) (fun z19 hz19 => ?_)
        exact Ok_some trivial
    · intro h
      have c860 : z17.1.toInt ≠ 0 := i32ne h
      exact Ok_some trivial
  · intro h
    have c861 : z13.toInt ≠ 0 := i32ne h
    rw [wk14]
    show Ok ((fX8_isThrown_ (0 : Int32)).bind (fun z17 => if z17.1 = (0 : Int32) then ((fX8_isCut i2 i6 i7).bind (fun z18 => if z18 = (0 : Int32) then (some ((-9 : Int32), z17.2)) else ((fX8_through i3 f12 i2).bind (fun z19 => some (z19, z17.2))))) else (some ((0 : Int32), z17.2)))) _
    refine Ok_bind (ok_X8_isThrown_ (0 : Int32)) (fun z17 hz17 => ?_)
    try dsimp only at hz17
    try simp only [tl0, tl1, tl2, tl3, tl4, tl5, tl6, tl8, tl9, tl10, tl50, tl81, tl100, tl1000, tl9999, tlm1, tlm9, tlm50, tl2147483647] at hz17
    refine Ok_if ?_ ?_
    · intro h
      have c862 : z17.1.toInt = 0 := i32eq h
      refine Ok_bind (ok_X8_isCut i2 i6 i7) (fun z18 hz18 => ?_)
      refine Ok_if ?_ ?_
      · intro h
        have c863 : z18.toInt = 0 := i32eq h
        exact Ok_some trivial
      · intro h
        have c864 : z18.toInt ≠ 0 := i32ne h
        refine Ok_bind (ok_X8_through i3 f12 i2 (by first | omega | assumption | (try simp only [tl0, tl1, tl2, tl3, tl4, tl5, tl6, tl8, tl9, tl10, tl50, tl81, tl100, tl1000, tl9999, tlm1, tlm9, tlm50, tl2147483647]; omega))) (fun z19 hz19 => ?_)
        exact Ok_some trivial
    · intro h
      have c865 : z17.1.toInt ≠ 0 := i32ne h
      exact Ok_some trivial
set_option maxRecDepth 4000 in
theorem ok_X8_least_ (i2 : Int32) (i5 : Int32) (i6 : Int32) (f11 : Nat → Int32) (h0 : 2 ≤ i2.toInt ∧ i2.toInt ≤ 9) (h1 : 0 ≤ i5.toInt ∧ i5.toInt ≤ 8) (h2 : 0 ≤ i6.toInt ∧ i6.toInt ≤ 8) : Ok (fX8_least_ i2 i5 i6 f11) (fun z => True) := by
  unfold fX8_least_
  refine Ok_bind (ok_X8_leastNow i2 i5 i6 f11 (by first | omega | assumption | (try simp only [tl0, tl1, tl2, tl3, tl4, tl5, tl6, tl8, tl9, tl10, tl50, tl81, tl100, tl1000, tl9999, tlm1, tlm9, tlm50, tl2147483647]; omega)) (by first | omega | assumption | (try simp only [tl0, tl1, tl2, tl3, tl4, tl5, tl6, tl8, tl9, tl10, tl50, tl81, tl100, tl1000, tl9999, tlm1, tlm9, tlm50, tl2147483647]; omega)) (by first | omega | assumption | (try simp only [tl0, tl1, tl2, tl3, tl4, tl5, tl6, tl8, tl9, tl10, tl50, tl81, tl100, tl1000, tl9999, tlm1, tlm9, tlm50, tl2147483647]; omega))) (fun z12 hz12 => ?_)
  exact Ok_some trivial
set_option maxRecDepth 4000 in
theorem ok_X8_isLeast (i3 : Int32) (i6 : Int32) (i7 : Int32) (f12 : Nat → Int32) (i2 : Int32) (h0 : 2 ≤ i3.toInt ∧ i3.toInt ≤ 9) (h1 : 0 ≤ i6.toInt ∧ i6.toInt ≤ 8) (h2 : 0 ≤ i7.toInt ∧ i7.toInt ≤ 8) : Ok (fX8_isLeast i3 i6 i7 f12 i2) (fun z => True) := by
  unfold fX8_isLeast
  refine Ok_bind (ok_X8_isSet i3 i2 (by first | omega | assumption | (try simp only [tl0, tl1, tl2, tl3, tl4, tl5, tl6, tl8, tl9, tl10, tl50, tl81, tl100, tl1000, tl9999, tlm1, tlm9, tlm50, tl2147483647]; omega))) (fun z13 hz13 => ?_)
  refine Ok_jn (fun k14 wk14 => ?_)
  refine Ok_if ?_ ?_
  · intro h
    have c866 : z13.toInt = 0 := i32eq h
    rw [wk14]
    show Ok ((fX8_isThrown_ (1 : Int32)).bind (fun z17 => if z17.1 = (0 : Int32) then ((fX8_isCut i2 i6 i7).bind (fun z18 => if z18 = (0 : Int32) then (some ((0 : Int32), z17.2)) else ((fX8_through i3 f12 i2).bind (fun z19 => (fX8_leastNow i3 i6 i7 f12).bind (fun z20 => if z19 = z20 then (some ((1 : Int32), z17.2)) else (some ((0 : Int32), z17.2))))))) else (some ((0 : Int32), z17.2)))) _
    refine Ok_bind (ok_X8_isThrown_ (1 : Int32)) (fun z17 hz17 => ?_)
    try dsimp only at hz17
    try simp only [tl0, tl1, tl2, tl3, tl4, tl5, tl6, tl8, tl9, tl10, tl50, tl81, tl100, tl1000, tl9999, tlm1, tlm9, tlm50, tl2147483647] at hz17
    refine Ok_if ?_ ?_
    · intro h
      have c867 : z17.1.toInt = 0 := i32eq h
      refine Ok_bind (ok_X8_isCut i2 i6 i7) (fun z18 hz18 => ?_)
      refine Ok_if ?_ ?_
      · intro h
        have c868 : z18.toInt = 0 := i32eq h
        exact Ok_some trivial
      · intro h
        have c869 : z18.toInt ≠ 0 := i32ne h
        refine Ok_bind (ok_X8_through i3 f12 i2 (by first | omega | assumption | (try simp only [tl0, tl1, tl2, tl3, tl4, tl5, tl6, tl8, tl9, tl10, tl50, tl81, tl100, tl1000, tl9999, tlm1, tlm9, tlm50, tl2147483647]; omega))) (fun z19 hz19 => ?_)
        refine Ok_bind (ok_X8_leastNow i3 i6 i7 f12 (by first | omega | assumption | (try simp only [tl0, tl1, tl2, tl3, tl4, tl5, tl6, tl8, tl9, tl10, tl50, tl81, tl100, tl1000, tl9999, tlm1, tlm9, tlm50, tl2147483647]; omega)) (by first | omega | assumption | (try simp only [tl0, tl1, tl2, tl3, tl4, tl5, tl6, tl8, tl9, tl10, tl50, tl81, tl100, tl1000, tl9999, tlm1, tlm9, tlm50, tl2147483647]; omega)) (by first | omega | assumption | (try simp only [tl0, tl1, tl2, tl3, tl4, tl5, tl6, tl8, tl9, tl10, tl50, tl81, tl100, tl1000, tl9999, tlm1, tlm9, tlm50, tl2147483647]; omega))) (fun z20 hz20 => ?_)
        refine Ok_if ?_ ?_
        · intro h
          have c870 : z19.toInt = z20.toInt := i32eq h
          exact Ok_some trivial
        · intro h
          have c871 : z19.toInt ≠ z20.toInt := i32ne h
          exact Ok_some trivial
    · intro h
      have c872 : z17.1.toInt ≠ 0 := i32ne h
      exact Ok_some trivial
  · intro h
    have c873 : z13.toInt ≠ 0 := i32ne h
    rw [wk14]
    show Ok ((fX8_isThrown_ (0 : Int32)).bind (fun z17 => if z17.1 = (0 : Int32) then ((fX8_isCut i2 i6 i7).bind (fun z18 => if z18 = (0 : Int32) then (some ((0 : Int32), z17.2)) else ((fX8_through i3 f12 i2).bind (fun z19 => (fX8_leastNow i3 i6 i7 f12).bind (fun z20 => if z19 = z20 then (some ((1 : Int32), z17.2)) else (some ((0 : Int32), z17.2))))))) else (some ((0 : Int32), z17.2)))) _
    refine Ok_bind (ok_X8_isThrown_ (0 : Int32)) (fun z17 hz17 => ?_)
    try dsimp only at hz17
    try simp only [tl0, tl1, tl2, tl3, tl4, tl5, tl6, tl8, tl9, tl10, tl50, tl81, tl100, tl1000, tl9999, tlm1, tlm9, tlm50, tl2147483647] at hz17
    refine Ok_if ?_ ?_
    · intro h
      have c874 : z17.1.toInt = 0 := i32eq h
      refine Ok_bind (ok_X8_isCut i2 i6 i7) (fun z18 hz18 => ?_)
      refine Ok_if ?_ ?_
      · intro h
        have c875 : z18.toInt = 0 := i32eq h
        exact Ok_some trivial
      · intro h
        have c876 : z18.toInt ≠ 0 := i32ne h
        refine Ok_bind (ok_X8_through i3 f12 i2 (by first | omega | assumption | (try simp only [tl0, tl1, tl2, tl3, tl4, tl5, tl6, tl8, tl9, tl10, tl50, tl81, tl100, tl1000, tl9999, tlm1, tlm9, tlm50, tl2147483647]; omega))) (fun z19 hz19 => ?_)
        refine Ok_bind (ok_X8_leastNow i3 i6 i7 f12 (by first | omega | assumption | (try simp only [tl0, tl1, tl2, tl3, tl4, tl5, tl6, tl8, tl9, tl10, tl50, tl81, tl100, tl1000, tl9999, tlm1, tlm9, tlm50, tl2147483647]; omega)) (by first | omega | assumption | (try simp only [tl0, tl1, tl2, tl3, tl4, tl5, tl6, tl8, tl9, tl10, tl50, tl81, tl100, tl1000, tl9999, tlm1, tlm9, tlm50, tl2147483647]; omega)) (by first | omega | assumption | (try simp only [tl0, tl1, tl2, tl3, tl4, tl5, tl6, tl8, tl9, tl10, tl50, tl81, tl100, tl1000, tl9999, tlm1, tlm9, tlm50, tl2147483647]; omega))) (fun z20 hz20 => ?_)
        refine Ok_if ?_ ?_
        · intro h
          have c877 : z19.toInt = z20.toInt := i32eq h
          exact Ok_some trivial
        · intro h
          have c878 : z19.toInt ≠ z20.toInt := i32ne h
          exact Ok_some trivial
    · intro h
      have c879 : z17.1.toInt ≠ 0 := i32ne h
      exact Ok_some trivial
set_option maxRecDepth 4000 in
theorem ok_X8_leasts (i2 : Int32) (i5 : Int32) (i6 : Int32) (f11 : Nat → Int32) (h0 : 2 ≤ i2.toInt ∧ i2.toInt ≤ 9) (h1 : 0 ≤ i5.toInt ∧ i5.toInt ≤ 8) (h2 : 0 ≤ i6.toInt ∧ i6.toInt ≤ 8) : Ok (fX8_leasts i2 i5 i6 f11) (fun z => True) := by
  unfold fX8_leasts
  refine Ok_bind (ok_X8_leastsNow i2 i5 i6 f11 (by first | omega | assumption | (try simp only [tl0, tl1, tl2, tl3, tl4, tl5, tl6, tl8, tl9, tl10, tl50, tl81, tl100, tl1000, tl9999, tlm1, tlm9, tlm50, tl2147483647]; omega)) (by first | omega | assumption | (try simp only [tl0, tl1, tl2, tl3, tl4, tl5, tl6, tl8, tl9, tl10, tl50, tl81, tl100, tl1000, tl9999, tlm1, tlm9, tlm50, tl2147483647]; omega)) (by first | omega | assumption | (try simp only [tl0, tl1, tl2, tl3, tl4, tl5, tl6, tl8, tl9, tl10, tl50, tl81, tl100, tl1000, tl9999, tlm1, tlm9, tlm50, tl2147483647]; omega))) (fun z12 hz12 => ?_)
  exact Ok_some trivial
set_option maxRecDepth 4000 in
theorem okL_X8_nthLeast_L28 (i3 : Int32) (i6 : Int32) (i7 : Int32) (f12 : Nat → Int32) (i36 : Int32) (i39 : Int32)   (g0 : 2 ≤ i3.toInt ∧ i3.toInt ≤ 9) (g1 : 0 ≤ i6.toInt ∧ i6.toInt ≤ 8) (g2 : 0 ≤ i7.toInt ∧ i7.toInt ≤ 8)  : ∀ (n : Nat) (i37 : Int32) (i38 : Int32), 0 ≤ i38.toInt → ((1 : Int32) <<< (i3 &&& 31)).toInt - i38.toInt < n → 0 < n → Ok (LX8_nthLeast_L28 i3 i6 i7 f12 i36 i39 n i37 i38 ) (fun z => True) := by
  intro n
  induction n with
  | zero => intro i37 i38 v0 hm h0; exact absurd h0 (Nat.lt_irrefl 0)
  | succ n ih =>
    intro i37 i38 v0 hm h0
    show Ok (BX8_nthLeast_L28 i3 i6 i7 f12 i36 i39 i37 i38 (fun i37 i38 => LX8_nthLeast_L28 i3 i6 i7 f12 i36 i39 n i37 i38 ) ) _
    unfold BX8_nthLeast_L28
    refine Ok_if ?_ ?_
    · intro h
      try (have e883 := sh9 (x := i3) (by omega) (by omega))
      have c882 : ((1 : Int32) <<< (i3 &&& 31)).toInt ≤ i38.toInt := i32le h
      exact Ok_some trivial
    · intro h
      try (have e885 := sh9 (x := i3) (by omega) (by omega))
      have c884 : i38.toInt < ((1 : Int32) <<< (i3 &&& 31)).toInt := i32nle h
      refine Ok_bind (ok_X8_isCut i38 i6 i7) (fun z40 hz40 => ?_)
      refine Ok_jn (fun k41 wk41 => ?_)
      refine Ok_if ?_ ?_
      · intro h
        have c886 : z40.toInt = 0 := i32eq h
        rw [wk41]
        show Ok ((fun i37 i38 => LX8_nthLeast_L28 i3 i6 i7 f12 i36 i39 n i37 i38 ) i37 (i38 + (1 : Int32))) _
        try (have e887 := inc_iv (x := i38) (by omega))
        exact ih i37 (i38 + (1 : Int32)) (by first | omega | assumption | (try simp only [tl0, tl1, tl2, tl3, tl4, tl5, tl6, tl8, tl9, tl10, tl50, tl81, tl100, tl1000, tl9999, tlm1, tlm9, tlm50, tl2147483647]; omega)) (by first | omega | assumption | (try simp only [tl0, tl1, tl2, tl3, tl4, tl5, tl6, tl8, tl9, tl10, tl50, tl81, tl100, tl1000, tl9999, tlm1, tlm9, tlm50, tl2147483647]; omega)) (by first | omega | assumption | (try simp only [tl0, tl1, tl2, tl3, tl4, tl5, tl6, tl8, tl9, tl10, tl50, tl81, tl100, tl1000, tl9999, tlm1, tlm9, tlm50, tl2147483647]; omega))
      · intro h
        have c888 : z40.toInt ≠ 0 := i32ne h
        refine Ok_bind (ok_X8_through i3 f12 i38 (by first | omega | assumption | (try simp only [tl0, tl1, tl2, tl3, tl4, tl5, tl6, tl8, tl9, tl10, tl50, tl81, tl100, tl1000, tl9999, tlm1, tlm9, tlm50, tl2147483647]; omega))) (fun z43 hz43 => ?_)
        refine Ok_if ?_ ?_
        · intro h
          have c889 : z43.toInt = i36.toInt := i32eq h
          refine Ok_if ?_ ?_
          · intro h
            have c890 : i37.toInt = 0 := i32eq h
            exact Ok_some trivial
          · intro h
            have c891 : i37.toInt ≠ 0 := i32ne h
            try (have e892 := decp_iv (x := i37) (by omega))
            rw [wk41]
            show Ok ((fun i37 i38 => LX8_nthLeast_L28 i3 i6 i7 f12 i36 i39 n i37 i38 ) (i37 + (-1 : Int32)) (i38 + (1 : Int32))) _
            try (have e893 := inc_iv (x := i38) (by omega))
            exact ih (i37 + (-1 : Int32)) (i38 + (1 : Int32)) (by first | omega | assumption | (try simp only [tl0, tl1, tl2, tl3, tl4, tl5, tl6, tl8, tl9, tl10, tl50, tl81, tl100, tl1000, tl9999, tlm1, tlm9, tlm50, tl2147483647]; omega)) (by first | omega | assumption | (try simp only [tl0, tl1, tl2, tl3, tl4, tl5, tl6, tl8, tl9, tl10, tl50, tl81, tl100, tl1000, tl9999, tlm1, tlm9, tlm50, tl2147483647]; omega)) (by first | omega | assumption | (try simp only [tl0, tl1, tl2, tl3, tl4, tl5, tl6, tl8, tl9, tl10, tl50, tl81, tl100, tl1000, tl9999, tlm1, tlm9, tlm50, tl2147483647]; omega))
        · intro h
          have c894 : z43.toInt ≠ i36.toInt := i32ne h
          rw [wk41]
          show Ok ((fun i37 i38 => LX8_nthLeast_L28 i3 i6 i7 f12 i36 i39 n i37 i38 ) i37 (i38 + (1 : Int32))) _
          try (have e895 := inc_iv (x := i38) (by omega))
          exact ih i37 (i38 + (1 : Int32)) (by first | omega | assumption | (try simp only [tl0, tl1, tl2, tl3, tl4, tl5, tl6, tl8, tl9, tl10, tl50, tl81, tl100, tl1000, tl9999, tlm1, tlm9, tlm50, tl2147483647]; omega)) (by first | omega | assumption | (try simp only [tl0, tl1, tl2, tl3, tl4, tl5, tl6, tl8, tl9, tl10, tl50, tl81, tl100, tl1000, tl9999, tlm1, tlm9, tlm50, tl2147483647]; omega)) (by first | omega | assumption | (try simp only [tl0, tl1, tl2, tl3, tl4, tl5, tl6, tl8, tl9, tl10, tl50, tl81, tl100, tl1000, tl9999, tlm1, tlm9, tlm50, tl2147483647]; omega))
set_option maxRecDepth 4000 in
theorem ok_X8_nthLeast (i3 : Int32) (i6 : Int32) (i7 : Int32) (f12 : Nat → Int32) (i2 : Int32) (h0 : 2 ≤ i3.toInt ∧ i3.toInt ≤ 9) (h1 : 0 ≤ i6.toInt ∧ i6.toInt ≤ 8) (h2 : 0 ≤ i7.toInt ∧ i7.toInt ≤ 8) : Ok (fX8_nthLeast i3 i6 i7 f12 i2) (fun z => True) := by
  unfold fX8_nthLeast
  refine Ok_jn (fun k13 wk13 => ?_)
  refine Ok_if ?_ ?_
  · intro h
    have c880 : 0 ≤ i2.toInt := i32le h
    rw [wk13]
    show Ok ((fX8_isThrown_ (0 : Int32)).bind (fun z16 => if z16.1 = (0 : Int32) then ((fX8_leastNow i3 i6 i7 f12).bind (fun z17 => LX8_nthLeast_L28  i3 i6 i7 f12 z17 z16.2 600 i2 (0 : Int32) )) else (some ((0 : Int32), z16.2)))) _
    refine Ok_bind (ok_X8_isThrown_ (0 : Int32)) (fun z16 hz16 => ?_)
    try dsimp only at hz16
    try simp only [tl0, tl1, tl2, tl3, tl4, tl5, tl6, tl8, tl9, tl10, tl50, tl81, tl100, tl1000, tl9999, tlm1, tlm9, tlm50, tl2147483647] at hz16
    refine Ok_if ?_ ?_
    · intro h
      have c881 : z16.1.toInt = 0 := i32eq h
      refine Ok_bind (ok_X8_leastNow i3 i6 i7 f12 (by first | omega | assumption | (try simp only [tl0, tl1, tl2, tl3, tl4, tl5, tl6, tl8, tl9, tl10, tl50, tl81, tl100, tl1000, tl9999, tlm1, tlm9, tlm50, tl2147483647]; omega)) (by first | omega | assumption | (try simp only [tl0, tl1, tl2, tl3, tl4, tl5, tl6, tl8, tl9, tl10, tl50, tl81, tl100, tl1000, tl9999, tlm1, tlm9, tlm50, tl2147483647]; omega)) (by first | omega | assumption | (try simp only [tl0, tl1, tl2, tl3, tl4, tl5, tl6, tl8, tl9, tl10, tl50, tl81, tl100, tl1000, tl9999, tlm1, tlm9, tlm50, tl2147483647]; omega))) (fun z17 hz17 => ?_)
      try (have e896 := sh9 (x := i3) (by omega) (by omega))
      refine Ok_mono (okL_X8_nthLeast_L28 i3 i6 i7 f12 z17 z16.2 (by first | omega | assumption | (try simp only [tl0, tl1, tl2, tl3, tl4, tl5, tl6, tl8, tl9, tl10, tl50, tl81, tl100, tl1000, tl9999, tlm1, tlm9, tlm50, tl2147483647]; omega)) (by first | omega | assumption | (try simp only [tl0, tl1, tl2, tl3, tl4, tl5, tl6, tl8, tl9, tl10, tl50, tl81, tl100, tl1000, tl9999, tlm1, tlm9, tlm50, tl2147483647]; omega)) (by first | omega | assumption | (try simp only [tl0, tl1, tl2, tl3, tl4, tl5, tl6, tl8, tl9, tl10, tl50, tl81, tl100, tl1000, tl9999, tlm1, tlm9, tlm50, tl2147483647]; omega)) 600 i2 (0 : Int32) (by first | omega | assumption | (try simp only [tl0, tl1, tl2, tl3, tl4, tl5, tl6, tl8, tl9, tl10, tl50, tl81, tl100, tl1000, tl9999, tlm1, tlm9, tlm50, tl2147483647]; omega)) (by first | omega | assumption | (try simp only [tl0, tl1, tl2, tl3, tl4, tl5, tl6, tl8, tl9, tl10, tl50, tl81, tl100, tl1000, tl9999, tlm1, tlm9, tlm50, tl2147483647]; omega)) (by first | omega | assumption | (try simp only [tl0, tl1, tl2, tl3, tl4, tl5, tl6, tl8, tl9, tl10, tl50, tl81, tl100, tl1000, tl9999, tlm1, tlm9, tlm50, tl2147483647]; omega))) ?_
      intro z hz
      first | exact hz | (simp only [Sx] at *; omega) | (dsimp only at *; omega)
    · intro h
      have c897 : z16.1.toInt ≠ 0 := i32ne h
      exact Ok_some trivial
  · intro h
    have c898 : i2.toInt < 0 := i32nle h
    rw [wk13]
    show Ok ((fX8_isThrown_ (1 : Int32)).bind (fun z16 => if z16.1 = (0 : Int32) then ((fX8_leastNow i3 i6 i7 f12).bind (fun z17 => LX8_nthLeast_L28  i3 i6 i7 f12 z17 z16.2 600 i2 (0 : Int32) )) else (some ((0 : Int32), z16.2)))) _
    refine Ok_bind (ok_X8_isThrown_ (1 : Int32)) (fun z16 hz16 => ?_)
    try dsimp only at hz16
    try simp only [tl0, tl1, tl2, tl3, tl4, tl5, tl6, tl8, tl9, tl10, tl50, tl81, tl100, tl1000, tl9999, tlm1, tlm9, tlm50, tl2147483647] at hz16
    refine Ok_if ?_ ?_
    · intro h
      have c899 : z16.1.toInt = 0 := i32eq h
      refine Ok_bind (ok_X8_leastNow i3 i6 i7 f12 (by first | omega | assumption | (try simp only [tl0, tl1, tl2, tl3, tl4, tl5, tl6, tl8, tl9, tl10, tl50, tl81, tl100, tl1000, tl9999, tlm1, tlm9, tlm50, tl2147483647]; omega)) (by first | omega | assumption | (try simp only [tl0, tl1, tl2, tl3, tl4, tl5, tl6, tl8, tl9, tl10, tl50, tl81, tl100, tl1000, tl9999, tlm1, tlm9, tlm50, tl2147483647]; omega)) (by first | omega | assumption | (try simp only [tl0, tl1, tl2, tl3, tl4, tl5, tl6, tl8, tl9, tl10, tl50, tl81, tl100, tl1000, tl9999, tlm1, tlm9, tlm50, tl2147483647]; omega))) (fun z17 hz17 => ?_)
      try (have e900 := sh9 (x := i3) (by omega) (by omega))
      refine Ok_mono (okL_X8_nthLeast_L28 i3 i6 i7 f12 z17 z16.2 (by first | omega | assumption | (try simp only [tl0, tl1, tl2, tl3, tl4, tl5, tl6, tl8, tl9, tl10, tl50, tl81, tl100, tl1000, tl9999, tlm1, tlm9, tlm50, tl2147483647]; omega)) (by first | omega | assumption | (try simp only [tl0, tl1, tl2, tl3, tl4, tl5, tl6, tl8, tl9, tl10, tl50, tl81, tl100, tl1000, tl9999, tlm1, tlm9, tlm50, tl2147483647]; omega)) (by first | omega | assumption | (try simp only [tl0, tl1, tl2, tl3, tl4, tl5, tl6, tl8, tl9, tl10, tl50, tl81, tl100, tl1000, tl9999, tlm1, tlm9, tlm50, tl2147483647]; omega)) 600 i2 (0 : Int32) (by first | omega | assumption | (try simp only [tl0, tl1, tl2, tl3, tl4, tl5, tl6, tl8, tl9, tl10, tl50, tl81, tl100, tl1000, tl9999, tlm1, tlm9, tlm50, tl2147483647]; omega)) (by first | omega | assumption | (try simp only [tl0, tl1, tl2, tl3, tl4, tl5, tl6, tl8, tl9, tl10, tl50, tl81, tl100, tl1000, tl9999, tlm1, tlm9, tlm50, tl2147483647]; omega)) (by first | omega | assumption | (try simp only [tl0, tl1, tl2, tl3, tl4, tl5, tl6, tl8, tl9, tl10, tl50, tl81, tl100, tl1000, tl9999, tlm1, tlm9, tlm50, tl2147483647]; omega))) ?_
      intro z hz
      first | exact hz | (simp only [Sx] at *; omega) | (dsimp only at *; omega)
    · intro h
      have c901 : z16.1.toInt ≠ 0 := i32ne h
      exact Ok_some trivial
set_option maxRecDepth 4000 in
theorem ok_X8_end (i3 : Int32) (i6 : Int32) (i7 : Int32) (f12 : Nat → Int32) (i2 : Int32) (h0 : 2 ≤ i3.toInt ∧ i3.toInt ≤ 9) (h1 : 0 ≤ i6.toInt ∧ i6.toInt ≤ 8) (h2 : 0 ≤ i7.toInt ∧ i7.toInt ≤ 8) : Ok (fX8_end i3 i6 i7 f12 i2) (fun z => True) := by
  unfold fX8_end
  refine Ok_bind (ok_X8_endNow i3 i6 i7 f12 i2 (by first | omega | assumption | (try simp only [tl0, tl1, tl2, tl3, tl4, tl5, tl6, tl8, tl9, tl10, tl50, tl81, tl100, tl1000, tl9999, tlm1, tlm9, tlm50, tl2147483647]; omega)) (by first | omega | assumption | (try simp only [tl0, tl1, tl2, tl3, tl4, tl5, tl6, tl8, tl9, tl10, tl50, tl81, tl100, tl1000, tl9999, tlm1, tlm9, tlm50, tl2147483647]; omega)) (by first | omega | assumption | (try simp only [tl0, tl1, tl2, tl3, tl4, tl5, tl6, tl8, tl9, tl10, tl50, tl81, tl100, tl1000, tl9999, tlm1, tlm9, tlm50, tl2147483647]; omega))) (fun z13 hz13 => ?_)
  exact Ok_some trivial
set_option maxRecDepth 4000 in
theorem ok_X8_value (i2 : Int32) (i5 : Int32) (f11 : Nat → Int32) (h0 : 2 ≤ i2.toInt ∧ i2.toInt ≤ 9) (h1 : 0 ≤ i5.toInt ∧ i5.toInt ≤ 8) : Ok (fX8_value i2 i5 f11) (fun z => True) := by
  unfold fX8_value
  refine Ok_bind (ok_X8_valueNow i2 i5 f11 (by first | omega | assumption | (try simp only [tl0, tl1, tl2, tl3, tl4, tl5, tl6, tl8, tl9, tl10, tl50, tl81, tl100, tl1000, tl9999, tlm1, tlm9, tlm50, tl2147483647]; omega)) (by first | omega | assumption | (try simp only [tl0, tl1, tl2, tl3, tl4, tl5, tl6, tl8, tl9, tl10, tl50, tl81, tl100, tl1000, tl9999, tlm1, tlm9, tlm50, tl2147483647]; omega))) (fun z12 hz12 => ?_)
  exact Ok_some trivial
set_option maxRecDepth 4000 in
theorem ok_X8_most (i3 : Int32) (i6 : Int32) (i7 : Int32) (f12 : Nat → Int32) (i2 : Int32) (h0 : 2 ≤ i3.toInt ∧ i3.toInt ≤ 9) (h1 : 0 ≤ i6.toInt ∧ i6.toInt ≤ 8) (h2 : 0 ≤ i7.toInt ∧ i7.toInt ≤ 8) : Ok (fX8_most i3 i6 i7 f12 i2) (fun z => True) := by
  unfold fX8_most
  refine Ok_bind (ok_X8_isRule i2) (fun z13 hz13 => ?_)
  try dsimp only at hz13
  try simp only [tl0, tl1, tl2, tl3, tl4, tl5, tl6, tl8, tl9, tl10, tl50, tl81, tl100, tl1000, tl9999, tlm1, tlm9, tlm50, tl2147483647] at hz13
  refine Ok_jn (fun k14 wk14 => ?_)
  refine Ok_if ?_ ?_
  · intro h
    have c902 : z13.toInt = 0 := i32eq h
    rw [wk14]
    show Ok ((fX8_isThrown_ (1 : Int32)).bind (fun z17 => if z17.1 = (0 : Int32) then ((fX8_leastNow i3 i6 i7 f12).bind (fun z18 => some (z18, z17.2))) else (some ((0 : Int32), z17.2)))) _
    refine Ok_bind (ok_X8_isThrown_ (1 : Int32)) (fun z17 hz17 => ?_)
    try dsimp only at hz17
    try simp only [tl0, tl1, tl2, tl3, tl4, tl5, tl6, tl8, tl9, tl10, tl50, tl81, tl100, tl1000, tl9999, tlm1, tlm9, tlm50, tl2147483647] at hz17
    refine Ok_if ?_ ?_
    · intro h
      have c903 : z17.1.toInt = 0 := i32eq h
      refine Ok_bind (ok_X8_leastNow i3 i6 i7 f12 (by first | omega | assumption | (try simp only [tl0, tl1, tl2, tl3, tl4, tl5, tl6, tl8, tl9, tl10, tl50, tl81, tl100, tl1000, tl9999, tlm1, tlm9, tlm50, tl2147483647]; omega)) (by first | omega | assumption | (try simp only [tl0, tl1, tl2, tl3, tl4, tl5, tl6, tl8, tl9, tl10, tl50, tl81, tl100, tl1000, tl9999, tlm1, tlm9, tlm50, tl2147483647]; omega)) (by first | omega | assumption | (try simp only [tl0, tl1, tl2, tl3, tl4, tl5, tl6, tl8, tl9, tl10, tl50, tl81, tl100, tl1000, tl9999, tlm1, tlm9, tlm50, tl2147483647]; omega))) (fun z18 hz18 => ?_)
      exact Ok_some trivial
    · intro h
      have c904 : z17.1.toInt ≠ 0 := i32ne h
      exact Ok_some trivial
  · intro h
    have c905 : z13.toInt ≠ 0 := i32ne h
    rw [wk14]
    show Ok ((fX8_isThrown_ (0 : Int32)).bind (fun z17 => if z17.1 = (0 : Int32) then ((fX8_leastNow i3 i6 i7 f12).bind (fun z18 => some (z18, z17.2))) else (some ((0 : Int32), z17.2)))) _
    refine Ok_bind (ok_X8_isThrown_ (0 : Int32)) (fun z17 hz17 => ?_)
    try dsimp only at hz17
    try simp only [tl0, tl1, tl2, tl3, tl4, tl5, tl6, tl8, tl9, tl10, tl50, tl81, tl100, tl1000, tl9999, tlm1, tlm9, tlm50, tl2147483647] at hz17
    refine Ok_if ?_ ?_
    · intro h
      have c906 : z17.1.toInt = 0 := i32eq h
      refine Ok_bind (ok_X8_leastNow i3 i6 i7 f12 (by first | omega | assumption | (try simp only [tl0, tl1, tl2, tl3, tl4, tl5, tl6, tl8, tl9, tl10, tl50, tl81, tl100, tl1000, tl9999, tlm1, tlm9, tlm50, tl2147483647]; omega)) (by first | omega | assumption | (try simp only [tl0, tl1, tl2, tl3, tl4, tl5, tl6, tl8, tl9, tl10, tl50, tl81, tl100, tl1000, tl9999, tlm1, tlm9, tlm50, tl2147483647]; omega)) (by first | omega | assumption | (try simp only [tl0, tl1, tl2, tl3, tl4, tl5, tl6, tl8, tl9, tl10, tl50, tl81, tl100, tl1000, tl9999, tlm1, tlm9, tlm50, tl2147483647]; omega))) (fun z18 hz18 => ?_)
      exact Ok_some trivial
    · intro h
      have c907 : z17.1.toInt ≠ 0 := i32ne h
      exact Ok_some trivial
set_option maxRecDepth 4000 in
theorem ok_X8_isMost (i2 : Int32) (i5 : Int32) (i6 : Int32) (f11 : Nat → Int32) (f12 : Nat → Int32) (h0 : 2 ≤ i2.toInt ∧ i2.toInt ≤ 9) (h1 : 0 ≤ i5.toInt ∧ i5.toInt ≤ 8) (h2 : 0 ≤ i6.toInt ∧ i6.toInt ≤ 8) : Ok (fX8_isMost i2 i5 i6 f11 f12) (fun z => True) := by
  unfold fX8_isMost
  refine Ok_bind (ok_X8_valueNow i2 i5 f12 (by first | omega | assumption | (try simp only [tl0, tl1, tl2, tl3, tl4, tl5, tl6, tl8, tl9, tl10, tl50, tl81, tl100, tl1000, tl9999, tlm1, tlm9, tlm50, tl2147483647]; omega)) (by first | omega | assumption | (try simp only [tl0, tl1, tl2, tl3, tl4, tl5, tl6, tl8, tl9, tl10, tl50, tl81, tl100, tl1000, tl9999, tlm1, tlm9, tlm50, tl2147483647]; omega))) (fun z13 hz13 => ?_)
  refine Ok_bind (ok_X8_leastNow i2 i5 i6 f11 (by first | omega | assumption | (try simp only [tl0, tl1, tl2, tl3, tl4, tl5, tl6, tl8, tl9, tl10, tl50, tl81, tl100, tl1000, tl9999, tlm1, tlm9, tlm50, tl2147483647]; omega)) (by first | omega | assumption | (try simp only [tl0, tl1, tl2, tl3, tl4, tl5, tl6, tl8, tl9, tl10, tl50, tl81, tl100, tl1000, tl9999, tlm1, tlm9, tlm50, tl2147483647]; omega)) (by first | omega | assumption | (try simp only [tl0, tl1, tl2, tl3, tl4, tl5, tl6, tl8, tl9, tl10, tl50, tl81, tl100, tl1000, tl9999, tlm1, tlm9, tlm50, tl2147483647]; omega))) (fun z14 hz14 => ?_)
  refine Ok_if ?_ ?_
  · intro h
    have c908 : z13.toInt = z14.toInt := i32eq h
    exact Ok_some trivial
  · intro h
    have c909 : z13.toInt ≠ z14.toInt := i32ne h
    exact Ok_some trivial
set_option maxRecDepth 4000 in
theorem okL_X8_layerNow_L56 (i3 : Int32) (f12 : Nat → Int32) (f13 : Nat → Int32) (i166 : Int32) {P : (Int32) → Prop} {k1 : Int32 → Option (Int32)} (g0 : 2 ≤ i3.toInt ∧ i3.toInt ≤ 9) (g1 : 0 ≤ i166.toInt) (g2 : i166.toInt ≤ 8) (hk1 : ∀ (y1 : Int32), Ok (k1 y1) P) : ∀ (n : Nat) (i191 : Int32) (i192 : Int32), 0 ≤ i192.toInt → i3.toInt - i192.toInt < n → 0 < n → Ok (LX8_layerNow_L56 i3 f12 f13 i166 n i191 i192 k1) P := by
  intro n
  induction n with
  | zero => intro i191 i192 v0 hm h0; exact absurd h0 (Nat.lt_irrefl 0)
  | succ n ih =>
    intro i191 i192 v0 hm h0
    show Ok (BX8_layerNow_L56 i3 f12 f13 i166 i191 i192 (fun i191 i192 => LX8_layerNow_L56 i3 f12 f13 i166 n i191 i192 k1) k1) _
    unfold BX8_layerNow_L56
    refine Ok_if ?_ ?_
    · intro h
      have c918 : i3.toInt ≤ i192.toInt := i32le h
      exact hk1 i191
    · intro h
      have c919 : i192.toInt < i3.toInt := i32nle h
      refine Ok_bind (ok_X8_left f12 f13 i166 i192 (by first | omega | assumption | (try simp only [tl0, tl1, tl2, tl3, tl4, tl5, tl6, tl8, tl9, tl10, tl50, tl81, tl100, tl1000, tl9999, tlm1, tlm9, tlm50, tl2147483647]; omega)) (by first | omega | assumption | (try simp only [tl0, tl1, tl2, tl3, tl4, tl5, tl6, tl8, tl9, tl10, tl50, tl81, tl100, tl1000, tl9999, tlm1, tlm9, tlm50, tl2147483647]; omega)) (by first | omega | assumption | (try simp only [tl0, tl1, tl2, tl3, tl4, tl5, tl6, tl8, tl9, tl10, tl50, tl81, tl100, tl1000, tl9999, tlm1, tlm9, tlm50, tl2147483647]; omega)) (by first | omega | assumption | (try simp only [tl0, tl1, tl2, tl3, tl4, tl5, tl6, tl8, tl9, tl10, tl50, tl81, tl100, tl1000, tl9999, tlm1, tlm9, tlm50, tl2147483647]; omega))) (fun z193 hz193 => ?_)
      refine Ok_jn (fun k194 wk194 => ?_)
      refine Ok_if ?_ ?_
      · intro h
        have c920 : z193.toInt ≤ 0 := i32le h
        rw [wk194]
        show Ok ((fun i191 i192 => LX8_layerNow_L56 i3 f12 f13 i166 n i191 i192 k1) i191 (i192 + (1 : Int32))) _
        try (have e921 := inc_iv (x := i192) (by omega))
        exact ih i191 (i192 + (1 : Int32)) (by first | omega | assumption | (try simp only [tl0, tl1, tl2, tl3, tl4, tl5, tl6, tl8, tl9, tl10, tl50, tl81, tl100, tl1000, tl9999, tlm1, tlm9, tlm50, tl2147483647]; omega)) (by first | omega | assumption | (try simp only [tl0, tl1, tl2, tl3, tl4, tl5, tl6, tl8, tl9, tl10, tl50, tl81, tl100, tl1000, tl9999, tlm1, tlm9, tlm50, tl2147483647]; omega)) (by first | omega | assumption | (try simp only [tl0, tl1, tl2, tl3, tl4, tl5, tl6, tl8, tl9, tl10, tl50, tl81, tl100, tl1000, tl9999, tlm1, tlm9, tlm50, tl2147483647]; omega))
      · intro h
        have c922 : 0 < z193.toInt := i32nle h
        refine Ok_nm (fun i196 wi196 => ?_)
        have qi196 := i32eq wi196
        rw [wk194]
        show Ok ((fun i191 i192 => LX8_layerNow_L56 i3 f12 f13 i166 n i191 i192 k1) i196 (i192 + (1 : Int32))) _
        try (have e923 := inc_iv (x := i192) (by omega))
        exact ih i196 (i192 + (1 : Int32)) (by first | omega | assumption | (try simp only [tl0, tl1, tl2, tl3, tl4, tl5, tl6, tl8, tl9, tl10, tl50, tl81, tl100, tl1000, tl9999, tlm1, tlm9, tlm50, tl2147483647]; omega)) (by first | omega | assumption | (try simp only [tl0, tl1, tl2, tl3, tl4, tl5, tl6, tl8, tl9, tl10, tl50, tl81, tl100, tl1000, tl9999, tlm1, tlm9, tlm50, tl2147483647]; omega)) (by first | omega | assumption | (try simp only [tl0, tl1, tl2, tl3, tl4, tl5, tl6, tl8, tl9, tl10, tl50, tl81, tl100, tl1000, tl9999, tlm1, tlm9, tlm50, tl2147483647]; omega))
set_option maxRecDepth 4000 in
theorem okL_X8_layerNow_L34 (i3 : Int32) (f12 : Nat → Int32) (f13 : Nat → Int32) (i114 : Int32) {P : (Int32) → Prop} {k1 : Int32 → Option (Int32)} (g0 : 2 ≤ i3.toInt ∧ i3.toInt ≤ 9) (hk1 : ∀ (y1 : Int32), Ok (k1 y1) P) : ∀ (n : Nat) (i165 : Int32) (i166 : Int32), 0 ≤ i166.toInt → i3.toInt - i166.toInt < n → 0 < n → Ok (LX8_layerNow_L34 i3 f12 f13 i114 n i165 i166 k1) P := by
  intro n
  induction n with
  | zero => intro i165 i166 v0 hm h0; exact absurd h0 (Nat.lt_irrefl 0)
  | succ n ih =>
    intro i165 i166 v0 hm h0
    show Ok (BX8_layerNow_L34 i3 f12 f13 i114 i165 i166 (fun i165 i166 => LX8_layerNow_L34 i3 f12 f13 i114 n i165 i166 k1) k1) _
    unfold BX8_layerNow_L34
    refine Ok_if ?_ ?_
    · intro h
      have c915 : i3.toInt ≤ i166.toInt := i32le h
      exact hk1 i165
    · intro h
      have c916 : i166.toInt < i3.toInt := i32nle h
      refine Ok_jn (fun k167 wk167 => ?_)
      refine Ok_if ?_ ?_
      · intro h
        have c917 : ((i114 >>> (i166 &&& 31)) &&& (1 : Int32)).toInt = 1 := i32eq h
        refine okL_X8_layerNow_L56 i3 f12 f13 i166 (by first | omega | assumption | (try simp only [tl0, tl1, tl2, tl3, tl4, tl5, tl6, tl8, tl9, tl10, tl50, tl81, tl100, tl1000, tl9999, tlm1, tlm9, tlm50, tl2147483647]; omega)) (by first | omega | assumption | (try simp only [tl0, tl1, tl2, tl3, tl4, tl5, tl6, tl8, tl9, tl10, tl50, tl81, tl100, tl1000, tl9999, tlm1, tlm9, tlm50, tl2147483647]; omega)) (by first | omega | assumption | (try simp only [tl0, tl1, tl2, tl3, tl4, tl5, tl6, tl8, tl9, tl10, tl50, tl81, tl100, tl1000, tl9999, tlm1, tlm9, tlm50, tl2147483647]; omega)) ?_ 600 i165 (0 : Int32) (by first | omega | assumption | (try simp only [tl0, tl1, tl2, tl3, tl4, tl5, tl6, tl8, tl9, tl10, tl50, tl81, tl100, tl1000, tl9999, tlm1, tlm9, tlm50, tl2147483647]; omega)) (by first | omega | assumption | (try simp only [tl0, tl1, tl2, tl3, tl4, tl5, tl6, tl8, tl9, tl10, tl50, tl81, tl100, tl1000, tl9999, tlm1, tlm9, tlm50, tl2147483647]; omega)) (by first | omega | assumption | (try simp only [tl0, tl1, tl2, tl3, tl4, tl5, tl6, tl8, tl9, tl10, tl50, tl81, tl100, tl1000, tl9999, tlm1, tlm9, tlm50, tl2147483647]; omega))
        intro i198
        show Ok (k167 i198) _
        rw [wk167]
        show Ok ((fun i165 i166 => LX8_layerNow_L34 i3 f12 f13 i114 n i165 i166 k1) i198 (i166 + (1 : Int32))) _
        try (have e924 := inc_iv (x := i166) (by omega))
        exact ih i198 (i166 + (1 : Int32)) (by first | omega | assumption | (try simp only [tl0, tl1, tl2, tl3, tl4, tl5, tl6, tl8, tl9, tl10, tl50, tl81, tl100, tl1000, tl9999, tlm1, tlm9, tlm50, tl2147483647]; omega)) (by first | omega | assumption | (try simp only [tl0, tl1, tl2, tl3, tl4, tl5, tl6, tl8, tl9, tl10, tl50, tl81, tl100, tl1000, tl9999, tlm1, tlm9, tlm50, tl2147483647]; omega)) (by first | omega | assumption | (try simp only [tl0, tl1, tl2, tl3, tl4, tl5, tl6, tl8, tl9, tl10, tl50, tl81, tl100, tl1000, tl9999, tlm1, tlm9, tlm50, tl2147483647]; omega))
      · intro h
        have c925 : ((i114 >>> (i166 &&& 31)) &&& (1 : Int32)).toInt ≠ 1 := i32ne h
        rw [wk167]
        show Ok ((fun i165 i166 => LX8_layerNow_L34 i3 f12 f13 i114 n i165 i166 k1) i165 (i166 + (1 : Int32))) _
        try (have e926 := inc_iv (x := i166) (by omega))
        exact ih i165 (i166 + (1 : Int32)) (by first | omega | assumption | (try simp only [tl0, tl1, tl2, tl3, tl4, tl5, tl6, tl8, tl9, tl10, tl50, tl81, tl100, tl1000, tl9999, tlm1, tlm9, tlm50, tl2147483647]; omega)) (by first | omega | assumption | (try simp only [tl0, tl1, tl2, tl3, tl4, tl5, tl6, tl8, tl9, tl10, tl50, tl81, tl100, tl1000, tl9999, tlm1, tlm9, tlm50, tl2147483647]; omega)) (by first | omega | assumption | (try simp only [tl0, tl1, tl2, tl3, tl4, tl5, tl6, tl8, tl9, tl10, tl50, tl81, tl100, tl1000, tl9999, tlm1, tlm9, tlm50, tl2147483647]; omega))
set_option maxRecDepth 4000 in
theorem okL_X8_layerNow_L9 (i3 : Int32) (f12 : Nat → Int32) (f13 : Nat → Int32) (i2 : Int32)   (g0 : 2 ≤ i3.toInt ∧ i3.toInt ≤ 9)  : ∀ (n : Nat) (i114 : Int32) (i115 : Int32), 0 ≤ i115.toInt → i3.toInt - i115.toInt < n → 0 < n → Ok (LX8_layerNow_L9 i3 f12 f13 i2 n i114 i115 ) (fun z => True) := by
  intro n
  induction n with
  | zero => intro i114 i115 v0 hm h0; exact absurd h0 (Nat.lt_irrefl 0)
  | succ n ih =>
    intro i114 i115 v0 hm h0
    show Ok (BX8_layerNow_L9 i3 f12 f13 i2 i114 i115 (fun i114 i115 => LX8_layerNow_L9 i3 f12 f13 i2 n i114 i115 ) ) _
    unfold BX8_layerNow_L9
    refine Ok_if ?_ ?_
    · intro h
      have c911 : i3.toInt ≤ i115.toInt := i32le h
      exact Ok_some trivial
    · intro h
      have c912 : i115.toInt < i3.toInt := i32nle h
      refine Ok_if ?_ ?_
      · intro h
        have c913 : ((i114 >>> (i2 &&& 31)) &&& (1 : Int32)).toInt = 1 := i32eq h
        exact Ok_some trivial
      · intro h
        have c914 : ((i114 >>> (i2 &&& 31)) &&& (1 : Int32)).toInt ≠ 1 := i32ne h
        refine okL_X8_layerNow_L34 i3 f12 f13 i114 (by first | omega | assumption | (try simp only [tl0, tl1, tl2, tl3, tl4, tl5, tl6, tl8, tl9, tl10, tl50, tl81, tl100, tl1000, tl9999, tlm1, tlm9, tlm50, tl2147483647]; omega)) ?_ 600 i114 (0 : Int32) (by first | omega | assumption | (try simp only [tl0, tl1, tl2, tl3, tl4, tl5, tl6, tl8, tl9, tl10, tl50, tl81, tl100, tl1000, tl9999, tlm1, tlm9, tlm50, tl2147483647]; omega)) (by first | omega | assumption | (try simp only [tl0, tl1, tl2, tl3, tl4, tl5, tl6, tl8, tl9, tl10, tl50, tl81, tl100, tl1000, tl9999, tlm1, tlm9, tlm50, tl2147483647]; omega)) (by first | omega | assumption | (try simp only [tl0, tl1, tl2, tl3, tl4, tl5, tl6, tl8, tl9, tl10, tl50, tl81, tl100, tl1000, tl9999, tlm1, tlm9, tlm50, tl2147483647]; omega))
        intro i200
        show Ok ((fun i114 i115 => LX8_layerNow_L9 i3 f12 f13 i2 n i114 i115 ) i200 (i115 + (1 : Int32))) _
        try (have e927 := inc_iv (x := i115) (by omega))
        exact ih i200 (i115 + (1 : Int32)) (by first | omega | assumption | (try simp only [tl0, tl1, tl2, tl3, tl4, tl5, tl6, tl8, tl9, tl10, tl50, tl81, tl100, tl1000, tl9999, tlm1, tlm9, tlm50, tl2147483647]; omega)) (by first | omega | assumption | (try simp only [tl0, tl1, tl2, tl3, tl4, tl5, tl6, tl8, tl9, tl10, tl50, tl81, tl100, tl1000, tl9999, tlm1, tlm9, tlm50, tl2147483647]; omega)) (by first | omega | assumption | (try simp only [tl0, tl1, tl2, tl3, tl4, tl5, tl6, tl8, tl9, tl10, tl50, tl81, tl100, tl1000, tl9999, tlm1, tlm9, tlm50, tl2147483647]; omega))
set_option maxRecDepth 4000 in
theorem ok_X8_layerNow (i3 : Int32) (i6 : Int32) (f12 : Nat → Int32) (f13 : Nat → Int32) (i2 : Int32) (h0 : 2 ≤ i3.toInt ∧ i3.toInt ≤ 9) (h1 : 0 ≤ i6.toInt ∧ i6.toInt ≤ 8) : Ok (fX8_layerNow i3 i6 f12 f13 i2) (fun z => True) := by
  unfold fX8_layerNow
  try (have e910 := sh9 (x := i6) (by omega) (by omega))
  refine Ok_nm (fun i14 wi14 => ?_)
  have qi14 := i32eq wi14
  refine Ok_mono (okL_X8_layerNow_L9 i3 f12 f13 i2 (by first | omega | assumption | (try simp only [tl0, tl1, tl2, tl3, tl4, tl5, tl6, tl8, tl9, tl10, tl50, tl81, tl100, tl1000, tl9999, tlm1, tlm9, tlm50, tl2147483647]; omega)) 600 i14 (0 : Int32) (by first | omega | assumption | (try simp only [tl0, tl1, tl2, tl3, tl4, tl5, tl6, tl8, tl9, tl10, tl50, tl81, tl100, tl1000, tl9999, tlm1, tlm9, tlm50, tl2147483647]; omega)) (by first | omega | assumption | (try simp only [tl0, tl1, tl2, tl3, tl4, tl5, tl6, tl8, tl9, tl10, tl50, tl81, tl100, tl1000, tl9999, tlm1, tlm9, tlm50, tl2147483647]; omega)) (by first | omega | assumption | (try simp only [tl0, tl1, tl2, tl3, tl4, tl5, tl6, tl8, tl9, tl10, tl50, tl81, tl100, tl1000, tl9999, tlm1, tlm9, tlm50, tl2147483647]; omega))) ?_
  intro z hz
  first | exact hz | (simp only [Sx] at *; omega) | (dsimp only at *; omega)
set_option maxRecDepth 4000 in
theorem ok_X8_layer (i3 : Int32) (i6 : Int32) (f12 : Nat → Int32) (f13 : Nat → Int32) (i2 : Int32) (h0 : 2 ≤ i3.toInt ∧ i3.toInt ≤ 9) (h1 : 0 ≤ i6.toInt ∧ i6.toInt ≤ 8) : Ok (fX8_layer i3 i6 f12 f13 i2) (fun z => True) := by
  unfold fX8_layer
  refine Ok_bind (ok_X8_isPlace i3 i2 (by first | omega | assumption | (try simp only [tl0, tl1, tl2, tl3, tl4, tl5, tl6, tl8, tl9, tl10, tl50, tl81, tl100, tl1000, tl9999, tlm1, tlm9, tlm50, tl2147483647]; omega))) (fun z14 hz14 => ?_)
  try dsimp only at hz14
  try simp only [tl0, tl1, tl2, tl3, tl4, tl5, tl6, tl8, tl9, tl10, tl50, tl81, tl100, tl1000, tl9999, tlm1, tlm9, tlm50, tl2147483647] at hz14
  refine Ok_jn (fun k15 wk15 => ?_)
  refine Ok_if ?_ ?_
  · intro h
    have c928 : z14.toInt = 0 := i32eq h
    rw [wk15]
    show Ok ((fX8_isThrown_ (1 : Int32)).bind (fun z18 => if z18.1 = (0 : Int32) then ((fX8_layerNow i3 i6 f12 f13 i2).bind (fun z19 => some (z19, z18.2))) else (some ((0 : Int32), z18.2)))) _
    refine Ok_bind (ok_X8_isThrown_ (1 : Int32)) (fun z18 hz18 => ?_)
    try dsimp only at hz18
    try simp only [tl0, tl1, tl2, tl3, tl4, tl5, tl6, tl8, tl9, tl10, tl50, tl81, tl100, tl1000, tl9999, tlm1, tlm9, tlm50, tl2147483647] at hz18
    refine Ok_if ?_ ?_
    · intro h
      have c929 : z18.1.toInt = 0 := i32eq h
      refine Ok_bind (ok_X8_layerNow i3 i6 f12 f13 i2 (by first | omega | assumption | (try simp only [tl0, tl1, tl2, tl3, tl4, tl5, tl6, tl8, tl9, tl10, tl50, tl81, tl100, tl1000, tl9999, tlm1, tlm9, tlm50, tl2147483647]; omega)) (by first | omega | assumption | (try simp only [tl0, tl1, tl2, tl3, tl4, tl5, tl6, tl8, tl9, tl10, tl50, tl81, tl100, tl1000, tl9999, tlm1, tlm9, tlm50, tl2147483647]; omega))) (fun z19 hz19 => ?_)
      exact Ok_some trivial
    · intro h
      have c930 : z18.1.toInt ≠ 0 := i32ne h
      exact Ok_some trivial
  · intro h
    have c931 : z14.toInt ≠ 0 := i32ne h
    rw [wk15]
    show Ok ((fX8_isThrown_ (0 : Int32)).bind (fun z18 => if z18.1 = (0 : Int32) then ((fX8_layerNow i3 i6 f12 f13 i2).bind (fun z19 => some (z19, z18.2))) else (some ((0 : Int32), z18.2)))) _
    refine Ok_bind (ok_X8_isThrown_ (0 : Int32)) (fun z18 hz18 => ?_)
    try dsimp only at hz18
    try simp only [tl0, tl1, tl2, tl3, tl4, tl5, tl6, tl8, tl9, tl10, tl50, tl81, tl100, tl1000, tl9999, tlm1, tlm9, tlm50, tl2147483647] at hz18
    refine Ok_if ?_ ?_
    · intro h
      have c932 : z18.1.toInt = 0 := i32eq h
      refine Ok_bind (ok_X8_layerNow i3 i6 f12 f13 i2 (by first | omega | assumption | (try simp only [tl0, tl1, tl2, tl3, tl4, tl5, tl6, tl8, tl9, tl10, tl50, tl81, tl100, tl1000, tl9999, tlm1, tlm9, tlm50, tl2147483647]; omega)) (by first | omega | assumption | (try simp only [tl0, tl1, tl2, tl3, tl4, tl5, tl6, tl8, tl9, tl10, tl50, tl81, tl100, tl1000, tl9999, tlm1, tlm9, tlm50, tl2147483647]; omega))) (fun z19 hz19 => ?_)
      exact Ok_some trivial
    · intro h
      have c933 : z18.1.toInt ≠ 0 := i32ne h
      exact Ok_some trivial
set_option maxRecDepth 4000 in
theorem ok_X8_through_ (i3 : Int32) (i6 : Int32) (i7 : Int32) (f12 : Nat → Int32) (i2 : Int32) (h0 : 2 ≤ i3.toInt ∧ i3.toInt ≤ 9) (h1 : 0 ≤ i6.toInt ∧ i6.toInt ≤ 8) (h2 : 0 ≤ i7.toInt ∧ i7.toInt ≤ 8) : Ok (fX8_through_ i3 i6 i7 f12 i2) (fun z => True) := by
  unfold fX8_through_
  refine Ok_bind (ok_X8_isSet i3 i2 (by first | omega | assumption | (try simp only [tl0, tl1, tl2, tl3, tl4, tl5, tl6, tl8, tl9, tl10, tl50, tl81, tl100, tl1000, tl9999, tlm1, tlm9, tlm50, tl2147483647]; omega))) (fun z13 hz13 => ?_)
  refine Ok_jn (fun k14 wk14 => ?_)
  refine Ok_if ?_ ?_
  · intro h
    have c934 : z13.toInt = 0 := i32eq h
    rw [wk14]
    show Ok ((fX8_isThrown_ (1 : Int32)).bind (fun z17 => if z17.1 = (0 : Int32) then ((fX8_isCut i2 i6 i7).bind (fun z18 => if z18 = (0 : Int32) then (some ((-9 : Int32), z17.2)) else ((fX8_through i3 f12 i2).bind (fun z19 => some (z19, z17.2))))) else (some ((0 : Int32), z17.2)))) _
    refine Ok_bind (ok_X8_isThrown_ (1 : Int32)) (fun z17 hz17 => ?_)
    try dsimp only at hz17
    try simp only [tl0, tl1, tl2, tl3, tl4, tl5, tl6, tl8, tl9, tl10, tl50, tl81, tl100, tl1000, tl9999, tlm1, tlm9, tlm50, tl2147483647] at hz17
    refine Ok_if ?_ ?_
    · intro h
      have c935 : z17.1.toInt = 0 := i32eq h
      refine Ok_bind (ok_X8_isCut i2 i6 i7) (fun z18 hz18 => ?_)
      refine Ok_if ?_ ?_
      · intro h
        have c936 : z18.toInt = 0 := i32eq h
        exact Ok_some trivial
      · intro h
        have c937 : z18.toInt ≠ 0 := i32ne h
        refine Ok_bind (ok_X8_through i3 f12 i2 (by first | omega | assumption | (try simp only [tl0, tl1, tl2, tl3, tl4, tl5, tl6, tl8, tl9, tl10, tl50, tl81, tl100, tl1000, tl9999, tlm1, tlm9, tlm50, tl2147483647]; omega))) (fun z19 hz19 => ?_)
        exact Ok_some trivial
    · intro h
      have c938 : z17.1.toInt ≠ 0 := i32ne h
      exact Ok_some trivial
  · intro h
    have c939 : z13.toInt ≠ 0 := i32ne h
    rw [wk14]
    show Ok ((fX8_isThrown_ (0 : Int32)).bind (fun z17 => if z17.1 = (0 : Int32) then ((fX8_isCut i2 i6 i7).bind (fun z18 => if z18 = (0 : Int32) then (some ((-9 : Int32), z17.2)) else ((fX8_through i3 f12 i2).bind (fun z19 => some (z19, z17.2))))) else (some ((0 : Int32), z17.2)))) _
    refine Ok_bind (ok_X8_isThrown_ (0 : Int32)) (fun z17 hz17 => ?_)
    try dsimp only at hz17
    try simp only [tl0, tl1, tl2, tl3, tl4, tl5, tl6, tl8, tl9, tl10, tl50, tl81, tl100, tl1000, tl9999, tlm1, tlm9, tlm50, tl2147483647] at hz17
    refine Ok_if ?_ ?_
    · intro h
      have c940 : z17.1.toInt = 0 := i32eq h
      refine Ok_bind (ok_X8_isCut i2 i6 i7) (fun z18 hz18 => ?_)
      refine Ok_if ?_ ?_
      · intro h
        have c941 : z18.toInt = 0 := i32eq h
        exact Ok_some trivial
      · intro h
        have c942 : z18.toInt ≠ 0 := i32ne h
        refine Ok_bind (ok_X8_through i3 f12 i2 (by first | omega | assumption | (try simp only [tl0, tl1, tl2, tl3, tl4, tl5, tl6, tl8, tl9, tl10, tl50, tl81, tl100, tl1000, tl9999, tlm1, tlm9, tlm50, tl2147483647]; omega))) (fun z19 hz19 => ?_)
        exact Ok_some trivial
    · intro h
      have c943 : z17.1.toInt ≠ 0 := i32ne h
      exact Ok_some trivial
set_option maxRecDepth 4000 in
theorem ok_X8_between (i4 : Int32) (f13 : Nat → Int32) (i2 : Int32) (i3 : Int32) (h0 : 2 ≤ i4.toInt ∧ i4.toInt ≤ 9) : Ok (fX8_between i4 f13 i2 i3) (fun z => True) := by
  unfold fX8_between
  refine Ok_bind (ok_X8_isPlace i4 i2 (by first | omega | assumption | (try simp only [tl0, tl1, tl2, tl3, tl4, tl5, tl6, tl8, tl9, tl10, tl50, tl81, tl100, tl1000, tl9999, tlm1, tlm9, tlm50, tl2147483647]; omega))) (fun z14 hz14 => ?_)
  try dsimp only at hz14
  try simp only [tl0, tl1, tl2, tl3, tl4, tl5, tl6, tl8, tl9, tl10, tl50, tl81, tl100, tl1000, tl9999, tlm1, tlm9, tlm50, tl2147483647] at hz14
  refine Ok_jn (fun k15 wk15 => ?_)
  refine Ok_jn (fun k17 wk17 => ?_)
  refine Ok_if ?_ ?_
  · intro h
    have c1026 : z14.toInt = 0 := i32eq h
    rw [wk17]
    show Ok (k15 (1 : Int32)) _
    rw [wk15]
    show Ok (jn (fun (i23 : Int32) => (fX8_isThrown (1 : Int32) i23).bind (fun z24 => if z24.1 = (0 : Int32) then ((fX8_least i4 f13 i2 i3).bind (fun z25 => some (z25, z24.2))) else (some ((0 : Int32), z24.2)))) (fun (k21 : Int32 → Option (Int32 × Int32)) => if i2 = i3 then (k21 (1 : Int32)) else (k21 (0 : Int32)))) _
    refine Ok_jn (fun k21 wk21 => ?_)
    refine Ok_if ?_ ?_
    · intro h
      have c1027 : i2.toInt = i3.toInt := i32eq h
      rw [wk21]
      show Ok ((fX8_isThrown (1 : Int32) (1 : Int32)).bind (fun z24 => if z24.1 = (0 : Int32) then ((fX8_least i4 f13 i2 i3).bind (fun z25 => some (z25, z24.2))) else (some ((0 : Int32), z24.2)))) _
      refine Ok_bind (ok_X8_isThrown (1 : Int32) (1 : Int32)) (fun z24 hz24 => ?_)
      try dsimp only at hz24
      try simp only [tl0, tl1, tl2, tl3, tl4, tl5, tl6, tl8, tl9, tl10, tl50, tl81, tl100, tl1000, tl9999, tlm1, tlm9, tlm50, tl2147483647] at hz24
      refine Ok_if ?_ ?_
      · intro h
        have c1028 : z24.1.toInt = 0 := i32eq h
        refine Ok_bind (ok_X8_least i4 f13 i2 i3 (by first | omega | assumption | (try simp only [tl0, tl1, tl2, tl3, tl4, tl5, tl6, tl8, tl9, tl10, tl50, tl81, tl100, tl1000, tl9999, tlm1, tlm9, tlm50, tl2147483647]; omega))) (fun z25 hz25 => ?_)
        exact Ok_some trivial
      · intro h
        have c1029 : z24.1.toInt ≠ 0 := i32ne h
        exact Ok_some trivial
    · intro h
      have c1030 : i2.toInt ≠ i3.toInt := i32ne h
      rw [wk21]
      show Ok ((fX8_isThrown (1 : Int32) (0 : Int32)).bind (fun z24 => if z24.1 = (0 : Int32) then ((fX8_least i4 f13 i2 i3).bind (fun z25 => some (z25, z24.2))) else (some ((0 : Int32), z24.2)))) _
      refine Ok_bind (ok_X8_isThrown (1 : Int32) (0 : Int32)) (fun z24 hz24 => ?_)
      try dsimp only at hz24
      try simp only [tl0, tl1, tl2, tl3, tl4, tl5, tl6, tl8, tl9, tl10, tl50, tl81, tl100, tl1000, tl9999, tlm1, tlm9, tlm50, tl2147483647] at hz24
      refine Ok_if ?_ ?_
      · intro h
        have c1031 : z24.1.toInt = 0 := i32eq h
        refine Ok_bind (ok_X8_least i4 f13 i2 i3 (by first | omega | assumption | (try simp only [tl0, tl1, tl2, tl3, tl4, tl5, tl6, tl8, tl9, tl10, tl50, tl81, tl100, tl1000, tl9999, tlm1, tlm9, tlm50, tl2147483647]; omega))) (fun z25 hz25 => ?_)
        exact Ok_some trivial
      · intro h
        have c1032 : z24.1.toInt ≠ 0 := i32ne h
        exact Ok_some trivial
  · intro h
    have c1033 : z14.toInt ≠ 0 := i32ne h
    refine Ok_bind (ok_X8_isPlace i4 i3 (by first | omega | assumption | (try simp only [tl0, tl1, tl2, tl3, tl4, tl5, tl6, tl8, tl9, tl10, tl50, tl81, tl100, tl1000, tl9999, tlm1, tlm9, tlm50, tl2147483647]; omega))) (fun z19 hz19 => ?_)
    try dsimp only at hz19
    try simp only [tl0, tl1, tl2, tl3, tl4, tl5, tl6, tl8, tl9, tl10, tl50, tl81, tl100, tl1000, tl9999, tlm1, tlm9, tlm50, tl2147483647] at hz19
    refine Ok_if ?_ ?_
    · intro h
      have c1034 : z19.toInt = 0 := i32eq h
      rw [wk17]
      show Ok (k15 (1 : Int32)) _
      rw [wk15]
      show Ok (jn (fun (i23 : Int32) => (fX8_isThrown (1 : Int32) i23).bind (fun z24 => if z24.1 = (0 : Int32) then ((fX8_least i4 f13 i2 i3).bind (fun z25 => some (z25, z24.2))) else (some ((0 : Int32), z24.2)))) (fun (k21 : Int32 → Option (Int32 × Int32)) => if i2 = i3 then (k21 (1 : Int32)) else (k21 (0 : Int32)))) _
      refine Ok_jn (fun k21 wk21 => ?_)
      refine Ok_if ?_ ?_
      · intro h
        have c1035 : i2.toInt = i3.toInt := i32eq h
        rw [wk21]
        show Ok ((fX8_isThrown (1 : Int32) (1 : Int32)).bind (fun z24 => if z24.1 = (0 : Int32) then ((fX8_least i4 f13 i2 i3).bind (fun z25 => some (z25, z24.2))) else (some ((0 : Int32), z24.2)))) _
        refine Ok_bind (ok_X8_isThrown (1 : Int32) (1 : Int32)) (fun z24 hz24 => ?_)
        try dsimp only at hz24
        try simp only [tl0, tl1, tl2, tl3, tl4, tl5, tl6, tl8, tl9, tl10, tl50, tl81, tl100, tl1000, tl9999, tlm1, tlm9, tlm50, tl2147483647] at hz24
        refine Ok_if ?_ ?_
        · intro h
          have c1036 : z24.1.toInt = 0 := i32eq h
          refine Ok_bind (ok_X8_least i4 f13 i2 i3 (by first | omega | assumption | (try simp only [tl0, tl1, tl2, tl3, tl4, tl5, tl6, tl8, tl9, tl10, tl50, tl81, tl100, tl1000, tl9999, tlm1, tlm9, tlm50, tl2147483647]; omega))) (fun z25 hz25 => ?_)
          exact Ok_some trivial
        · intro h
          have c1037 : z24.1.toInt ≠ 0 := i32ne h
          exact Ok_some trivial
      · intro h
        have c1038 : i2.toInt ≠ i3.toInt := i32ne h
        rw [wk21]
        show Ok ((fX8_isThrown (1 : Int32) (0 : Int32)).bind (fun z24 => if z24.1 = (0 : Int32) then ((fX8_least i4 f13 i2 i3).bind (fun z25 => some (z25, z24.2))) else (some ((0 : Int32), z24.2)))) _
        refine Ok_bind (ok_X8_isThrown (1 : Int32) (0 : Int32)) (fun z24 hz24 => ?_)
        try dsimp only at hz24
        try simp only [tl0, tl1, tl2, tl3, tl4, tl5, tl6, tl8, tl9, tl10, tl50, tl81, tl100, tl1000, tl9999, tlm1, tlm9, tlm50, tl2147483647] at hz24
        refine Ok_if ?_ ?_
        · intro h
          have c1039 : z24.1.toInt = 0 := i32eq h
          refine Ok_bind (ok_X8_least i4 f13 i2 i3 (by first | omega | assumption | (try simp only [tl0, tl1, tl2, tl3, tl4, tl5, tl6, tl8, tl9, tl10, tl50, tl81, tl100, tl1000, tl9999, tlm1, tlm9, tlm50, tl2147483647]; omega))) (fun z25 hz25 => ?_)
          exact Ok_some trivial
        · intro h
          have c1040 : z24.1.toInt ≠ 0 := i32ne h
          exact Ok_some trivial
    · intro h
      have c1041 : z19.toInt ≠ 0 := i32ne h
      rw [wk15]
      show Ok (jn (fun (i23 : Int32) => (fX8_isThrown (0 : Int32) i23).bind (fun z24 => if z24.1 = (0 : Int32) then ((fX8_least i4 f13 i2 i3).bind (fun z25 => some (z25, z24.2))) else (some ((0 : Int32), z24.2)))) (fun (k21 : Int32 → Option (Int32 × Int32)) => if i2 = i3 then (k21 (1 : Int32)) else (k21 (0 : Int32)))) _
      refine Ok_jn (fun k21 wk21 => ?_)
      refine Ok_if ?_ ?_
      · intro h
        have c1042 : i2.toInt = i3.toInt := i32eq h
        rw [wk21]
        show Ok ((fX8_isThrown (0 : Int32) (1 : Int32)).bind (fun z24 => if z24.1 = (0 : Int32) then ((fX8_least i4 f13 i2 i3).bind (fun z25 => some (z25, z24.2))) else (some ((0 : Int32), z24.2)))) _
        refine Ok_bind (ok_X8_isThrown (0 : Int32) (1 : Int32)) (fun z24 hz24 => ?_)
        try dsimp only at hz24
        try simp only [tl0, tl1, tl2, tl3, tl4, tl5, tl6, tl8, tl9, tl10, tl50, tl81, tl100, tl1000, tl9999, tlm1, tlm9, tlm50, tl2147483647] at hz24
        refine Ok_if ?_ ?_
        · intro h
          have c1043 : z24.1.toInt = 0 := i32eq h
          refine Ok_bind (ok_X8_least i4 f13 i2 i3 (by first | omega | assumption | (try simp only [tl0, tl1, tl2, tl3, tl4, tl5, tl6, tl8, tl9, tl10, tl50, tl81, tl100, tl1000, tl9999, tlm1, tlm9, tlm50, tl2147483647]; omega))) (fun z25 hz25 => ?_)
          exact Ok_some trivial
        · intro h
          have c1044 : z24.1.toInt ≠ 0 := i32ne h
          exact Ok_some trivial
      · intro h
        have c1045 : i2.toInt ≠ i3.toInt := i32ne h
        rw [wk21]
        show Ok ((fX8_isThrown (0 : Int32) (0 : Int32)).bind (fun z24 => if z24.1 = (0 : Int32) then ((fX8_least i4 f13 i2 i3).bind (fun z25 => some (z25, z24.2))) else (some ((0 : Int32), z24.2)))) _
        refine Ok_bind (ok_X8_isThrown (0 : Int32) (0 : Int32)) (fun z24 hz24 => ?_)
        try dsimp only at hz24
        try simp only [tl0, tl1, tl2, tl3, tl4, tl5, tl6, tl8, tl9, tl10, tl50, tl81, tl100, tl1000, tl9999, tlm1, tlm9, tlm50, tl2147483647] at hz24
        refine Ok_if ?_ ?_
        · intro h
          have c1046 : z24.1.toInt = 0 := i32eq h
          refine Ok_bind (ok_X8_least i4 f13 i2 i3 (by first | omega | assumption | (try simp only [tl0, tl1, tl2, tl3, tl4, tl5, tl6, tl8, tl9, tl10, tl50, tl81, tl100, tl1000, tl9999, tlm1, tlm9, tlm50, tl2147483647]; omega))) (fun z25 hz25 => ?_)
          exact Ok_some trivial
        · intro h
          have c1047 : z24.1.toInt ≠ 0 := i32ne h
          exact Ok_some trivial
set_option maxRecDepth 4000 in
theorem ok_X8_about (i2 : Int32) (i5 : Int32) (i6 : Int32) (f11 : Nat → Int32) (h0 : 2 ≤ i2.toInt ∧ i2.toInt ≤ 9) (h1 : 0 ≤ i5.toInt ∧ i5.toInt ≤ 8) (h2 : 0 ≤ i6.toInt ∧ i6.toInt ≤ 8) : Ok (fX8_about i2 i5 i6 f11) (fun z => True) := by
  unfold fX8_about
  refine Ok_bind (ok_X8_leastNow i2 i5 i6 f11 (by first | omega | assumption | (try simp only [tl0, tl1, tl2, tl3, tl4, tl5, tl6, tl8, tl9, tl10, tl50, tl81, tl100, tl1000, tl9999, tlm1, tlm9, tlm50, tl2147483647]; omega)) (by first | omega | assumption | (try simp only [tl0, tl1, tl2, tl3, tl4, tl5, tl6, tl8, tl9, tl10, tl50, tl81, tl100, tl1000, tl9999, tlm1, tlm9, tlm50, tl2147483647]; omega)) (by first | omega | assumption | (try simp only [tl0, tl1, tl2, tl3, tl4, tl5, tl6, tl8, tl9, tl10, tl50, tl81, tl100, tl1000, tl9999, tlm1, tlm9, tlm50, tl2147483647]; omega))) (fun z12 hz12 => ?_)
  exact Ok_some trivial
set_option maxRecDepth 4000 in
theorem okL_X8_apartNow_L10 (f11 : Nat → Int32) {P : (Int32) → Prop} {k1 : (Nat → Int32) → Option (Int32)}  (hk1 : ∀ (y1 : (Nat → Int32)), Ok (k1 y1) P) : ∀ (n : Nat) (i29 : Int32) (f30 : Nat → Int32), 0 ≤ i29.toInt → 81 - i29.toInt < n → 0 < n → Ok (LX8_apartNow_L10 f11 n i29 f30 k1) P := by
  intro n
  induction n with
  | zero => intro i29 f30 v0 hm h0; exact absurd h0 (Nat.lt_irrefl 0)
  | succ n ih =>
    intro i29 f30 v0 hm h0
    show Ok (BX8_apartNow_L10 f11 i29 f30 (fun i29 f30 => LX8_apartNow_L10 f11 n i29 f30 k1) k1) _
    unfold BX8_apartNow_L10
    refine Ok_if ?_ ?_
    · intro h
      have c1048 : 81 ≤ i29.toInt := i32le h
      exact hk1 f30
    · intro h
      have c1049 : i29.toInt < 81 := i32nle h
      refine Ok_inB (vp_of (by first | omega | assumption | (try simp only [tl0, tl1, tl2, tl3, tl4, tl5, tl6, tl8, tl9, tl10, tl50, tl81, tl100, tl1000, tl9999, tlm1, tlm9, tlm50, tl2147483647]; omega)) (by first | omega | assumption | (try simp only [tl0, tl1, tl2, tl3, tl4, tl5, tl6, tl8, tl9, tl10, tl50, tl81, tl100, tl1000, tl9999, tlm1, tlm9, tlm50, tl2147483647]; omega))) ?_
      refine Ok_jn (fun k31 wk31 => ?_)
      refine Ok_if ?_ ?_
      · intro h
        have c1050 : (f11 i29.toNatClampNeg).toInt ≤ 0 := i32le h
        rw [wk31]
        show Ok (inB i29 81 ((fun i29 f30 => LX8_apartNow_L10 f11 n i29 f30 k1) (i29 + (1 : Int32)) (upd f30 i29.toNatClampNeg (0 : Int32)))) _
        refine Ok_inB (vp_of (by first | omega | assumption | (try simp only [tl0, tl1, tl2, tl3, tl4, tl5, tl6, tl8, tl9, tl10, tl50, tl81, tl100, tl1000, tl9999, tlm1, tlm9, tlm50, tl2147483647]; omega)) (by first | omega | assumption | (try simp only [tl0, tl1, tl2, tl3, tl4, tl5, tl6, tl8, tl9, tl10, tl50, tl81, tl100, tl1000, tl9999, tlm1, tlm9, tlm50, tl2147483647]; omega))) ?_
        try (have e1051 := inc_iv (x := i29) (by omega))
        exact ih (i29 + (1 : Int32)) (upd f30 i29.toNatClampNeg (0 : Int32)) (by first | omega | assumption | (try simp only [tl0, tl1, tl2, tl3, tl4, tl5, tl6, tl8, tl9, tl10, tl50, tl81, tl100, tl1000, tl9999, tlm1, tlm9, tlm50, tl2147483647]; omega)) (by first | omega | assumption | (try simp only [tl0, tl1, tl2, tl3, tl4, tl5, tl6, tl8, tl9, tl10, tl50, tl81, tl100, tl1000, tl9999, tlm1, tlm9, tlm50, tl2147483647]; omega)) (by first | omega | assumption | (try simp only [tl0, tl1, tl2, tl3, tl4, tl5, tl6, tl8, tl9, tl10, tl50, tl81, tl100, tl1000, tl9999, tlm1, tlm9, tlm50, tl2147483647]; omega))
      · intro h
        have c1052 : 0 < (f11 i29.toNatClampNeg).toInt := i32nle h
        rw [wk31]
        show Ok (inB i29 81 ((fun i29 f30 => LX8_apartNow_L10 f11 n i29 f30 k1) (i29 + (1 : Int32)) (upd f30 i29.toNatClampNeg (1 : Int32)))) _
        refine Ok_inB (vp_of (by first | omega | assumption | (try simp only [tl0, tl1, tl2, tl3, tl4, tl5, tl6, tl8, tl9, tl10, tl50, tl81, tl100, tl1000, tl9999, tlm1, tlm9, tlm50, tl2147483647]; omega)) (by first | omega | assumption | (try simp only [tl0, tl1, tl2, tl3, tl4, tl5, tl6, tl8, tl9, tl10, tl50, tl81, tl100, tl1000, tl9999, tlm1, tlm9, tlm50, tl2147483647]; omega))) ?_
        try (have e1053 := inc_iv (x := i29) (by omega))
        exact ih (i29 + (1 : Int32)) (upd f30 i29.toNatClampNeg (1 : Int32)) (by first | omega | assumption | (try simp only [tl0, tl1, tl2, tl3, tl4, tl5, tl6, tl8, tl9, tl10, tl50, tl81, tl100, tl1000, tl9999, tlm1, tlm9, tlm50, tl2147483647]; omega)) (by first | omega | assumption | (try simp only [tl0, tl1, tl2, tl3, tl4, tl5, tl6, tl8, tl9, tl10, tl50, tl81, tl100, tl1000, tl9999, tlm1, tlm9, tlm50, tl2147483647]; omega)) (by first | omega | assumption | (try simp only [tl0, tl1, tl2, tl3, tl4, tl5, tl6, tl8, tl9, tl10, tl50, tl81, tl100, tl1000, tl9999, tlm1, tlm9, tlm50, tl2147483647]; omega))
set_option maxRecDepth 4000 in
theorem ok_X8_apartNow (i2 : Int32) (i5 : Int32) (i6 : Int32) (f11 : Nat → Int32) (h0 : 2 ≤ i2.toInt ∧ i2.toInt ≤ 9) (h1 : 0 ≤ i5.toInt ∧ i5.toInt ≤ 8) (h2 : 0 ≤ i6.toInt ∧ i6.toInt ≤ 8) : Ok (fX8_apartNow i2 i5 i6 f11) (fun z => True) := by
  unfold fX8_apartNow
  refine okL_X8_apartNow_L10 f11 ?_ 600 (0 : Int32) (fun _ => 0) (by first | omega | assumption | (try simp only [tl0, tl1, tl2, tl3, tl4, tl5, tl6, tl8, tl9, tl10, tl50, tl81, tl100, tl1000, tl9999, tlm1, tlm9, tlm50, tl2147483647]; omega)) (by first | omega | assumption | (try simp only [tl0, tl1, tl2, tl3, tl4, tl5, tl6, tl8, tl9, tl10, tl50, tl81, tl100, tl1000, tl9999, tlm1, tlm9, tlm50, tl2147483647]; omega)) (by first | omega | assumption | (try simp only [tl0, tl1, tl2, tl3, tl4, tl5, tl6, tl8, tl9, tl10, tl50, tl81, tl100, tl1000, tl9999, tlm1, tlm9, tlm50, tl2147483647]; omega))
  intro f34
  show Ok ((fX8_least i2 f34 i5 i6).bind (fun z35 => some z35)) _
  refine Ok_bind (ok_X8_least i2 f34 i5 i6 (by first | omega | assumption | (try simp only [tl0, tl1, tl2, tl3, tl4, tl5, tl6, tl8, tl9, tl10, tl50, tl81, tl100, tl1000, tl9999, tlm1, tlm9, tlm50, tl2147483647]; omega))) (fun z35 hz35 => ?_)
  exact Ok_some trivial
set_option maxRecDepth 4000 in
theorem ok_X8_apart (i3 : Int32) (i6 : Int32) (i7 : Int32) (f12 : Nat → Int32) (i2 : Int32) (h0 : 2 ≤ i3.toInt ∧ i3.toInt ≤ 9) (h1 : 0 ≤ i6.toInt ∧ i6.toInt ≤ 8) (h2 : 0 ≤ i7.toInt ∧ i7.toInt ≤ 8) : Ok (fX8_apart i3 i6 i7 f12 i2) (fun z => True) := by
  unfold fX8_apart
  refine Ok_jn (fun k13 wk13 => ?_)
  refine Ok_jn (fun k15 wk15 => ?_)
  refine Ok_if ?_ ?_
  · intro h
    have c1054 : i2.toInt < 0 := i32lt h
    rw [wk15]
    show Ok (k13 (1 : Int32)) _
    rw [wk13]
    show Ok ((fX8_isThrown_ (1 : Int32)).bind (fun z18 => if z18.1 = (0 : Int32) then ((fX8_apartNow i3 i6 i7 f12).bind (fun z19 => some (z19, z18.2))) else (some ((0 : Int32), z18.2)))) _
    refine Ok_bind (ok_X8_isThrown_ (1 : Int32)) (fun z18 hz18 => ?_)
    try dsimp only at hz18
    try simp only [tl0, tl1, tl2, tl3, tl4, tl5, tl6, tl8, tl9, tl10, tl50, tl81, tl100, tl1000, tl9999, tlm1, tlm9, tlm50, tl2147483647] at hz18
    refine Ok_if ?_ ?_
    · intro h
      have c1055 : z18.1.toInt = 0 := i32eq h
      refine Ok_bind (ok_X8_apartNow i3 i6 i7 f12 (by first | omega | assumption | (try simp only [tl0, tl1, tl2, tl3, tl4, tl5, tl6, tl8, tl9, tl10, tl50, tl81, tl100, tl1000, tl9999, tlm1, tlm9, tlm50, tl2147483647]; omega)) (by first | omega | assumption | (try simp only [tl0, tl1, tl2, tl3, tl4, tl5, tl6, tl8, tl9, tl10, tl50, tl81, tl100, tl1000, tl9999, tlm1, tlm9, tlm50, tl2147483647]; omega)) (by first | omega | assumption | (try simp only [tl0, tl1, tl2, tl3, tl4, tl5, tl6, tl8, tl9, tl10, tl50, tl81, tl100, tl1000, tl9999, tlm1, tlm9, tlm50, tl2147483647]; omega))) (fun z19 hz19 => ?_)
      exact Ok_some trivial
    · intro h
      have c1056 : z18.1.toInt ≠ 0 := i32ne h
      exact Ok_some trivial
  · intro h
    have c1057 : 0 ≤ i2.toInt := i32nlt h
    refine Ok_if ?_ ?_
    · intro h
      have c1058 : i2.toInt ≤ 1 := i32le h
      rw [wk13]
      show Ok ((fX8_isThrown_ (0 : Int32)).bind (fun z18 => if z18.1 = (0 : Int32) then ((fX8_apartNow i3 i6 i7 f12).bind (fun z19 => some (z19, z18.2))) else (some ((0 : Int32), z18.2)))) _
      refine Ok_bind (ok_X8_isThrown_ (0 : Int32)) (fun z18 hz18 => ?_)
      try dsimp only at hz18
      try simp only [tl0, tl1, tl2, tl3, tl4, tl5, tl6, tl8, tl9, tl10, tl50, tl81, tl100, tl1000, tl9999, tlm1, tlm9, tlm50, tl2147483647] at hz18
      refine Ok_if ?_ ?_
      · intro h
        have c1059 : z18.1.toInt = 0 := i32eq h
        refine Ok_bind (ok_X8_apartNow i3 i6 i7 f12 (by first | omega | assumption | (try simp only [tl0, tl1, tl2, tl3, tl4, tl5, tl6, tl8, tl9, tl10, tl50, tl81, tl100, tl1000, tl9999, tlm1, tlm9, tlm50, tl2147483647]; omega)) (by first | omega | assumption | (try simp only [tl0, tl1, tl2, tl3, tl4, tl5, tl6, tl8, tl9, tl10, tl50, tl81, tl100, tl1000, tl9999, tlm1, tlm9, tlm50, tl2147483647]; omega)) (by first | omega | assumption | (try simp only [tl0, tl1, tl2, tl3, tl4, tl5, tl6, tl8, tl9, tl10, tl50, tl81, tl100, tl1000, tl9999, tlm1, tlm9, tlm50, tl2147483647]; omega))) (fun z19 hz19 => ?_)
        exact Ok_some trivial
      · intro h
        have c1060 : z18.1.toInt ≠ 0 := i32ne h
        exact Ok_some trivial
    · intro h
      have c1061 : 1 < i2.toInt := i32nle h
      rw [wk15]
      show Ok (k13 (1 : Int32)) _
      rw [wk13]
      show Ok ((fX8_isThrown_ (1 : Int32)).bind (fun z18 => if z18.1 = (0 : Int32) then ((fX8_apartNow i3 i6 i7 f12).bind (fun z19 => some (z19, z18.2))) else (some ((0 : Int32), z18.2)))) _
      refine Ok_bind (ok_X8_isThrown_ (1 : Int32)) (fun z18 hz18 => ?_)
      try dsimp only at hz18
      try simp only [tl0, tl1, tl2, tl3, tl4, tl5, tl6, tl8, tl9, tl10, tl50, tl81, tl100, tl1000, tl9999, tlm1, tlm9, tlm50, tl2147483647] at hz18
      refine Ok_if ?_ ?_
      · intro h
        have c1062 : z18.1.toInt = 0 := i32eq h
        refine Ok_bind (ok_X8_apartNow i3 i6 i7 f12 (by first | omega | assumption | (try simp only [tl0, tl1, tl2, tl3, tl4, tl5, tl6, tl8, tl9, tl10, tl50, tl81, tl100, tl1000, tl9999, tlm1, tlm9, tlm50, tl2147483647]; omega)) (by first | omega | assumption | (try simp only [tl0, tl1, tl2, tl3, tl4, tl5, tl6, tl8, tl9, tl10, tl50, tl81, tl100, tl1000, tl9999, tlm1, tlm9, tlm50, tl2147483647]; omega)) (by first | omega | assumption | (try simp only [tl0, tl1, tl2, tl3, tl4, tl5, tl6, tl8, tl9, tl10, tl50, tl81, tl100, tl1000, tl9999, tlm1, tlm9, tlm50, tl2147483647]; omega))) (fun z19 hz19 => ?_)
        exact Ok_some trivial
      · intro h
        have c1063 : z18.1.toInt ≠ 0 := i32ne h
        exact Ok_some trivial
set_option maxRecDepth 4000 in
theorem ok_X8_houseNow (i8 : Int32) (i9 : Int32) (i10 : Int32) (i2 : Int32)  : Ok (fX8_houseNow i8 i9 i10 i2) (fun z => True) := by
  unfold fX8_houseNow
  refine Ok_if ?_ ?_
  · intro h
    have c1064 : i2.toInt = 0 := i32eq h
    exact Ok_some trivial
  · intro h
    have c1065 : i2.toInt ≠ 0 := i32ne h
    refine Ok_if ?_ ?_
    · intro h
      have c1066 : i2.toInt = 1 := i32eq h
      exact Ok_some trivial
    · intro h
      have c1067 : i2.toInt ≠ 1 := i32ne h
      exact Ok_some trivial